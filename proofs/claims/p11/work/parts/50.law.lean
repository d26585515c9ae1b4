/-! ===== the law, from its entry ===== -/
theorem l_inst : vwCl.all (fun q => decide (Cond.instantiable q.1 q.2.2 ∈ lw_tbl)) = true := by decide +kernel
theorem l_nc : ∀ a, a < 5 → ∀ b, b < 5 → a ≠ b → Cond.not (.castable (ax_n a) (ax_n b)) ∈ flatC (Jvm.Cond.and given_1 narrow_1) := by decide +kernel
theorem l_sU : Cond.isRef (.static Bundle.tN "UNASSIGNED_STACK" Bundle.steD) ∈ flatC (Jvm.Cond.and given_1 narrow_1) := by decide +kernel
theorem l_sN : Cond.isRef (.static Bundle.tN "SUPPRESSED_SENTINEL" Bundle.listD) ∈ flatC (Jvm.Cond.and given_1 narrow_1) := by decide +kernel
theorem l_lU : Cond.laysStatic Bundle.tN "UNASSIGNED_STACK" Bundle.steD ∈ lw_tbl := by decide +kernel
theorem l_lN : Cond.laysStatic Bundle.tN "SUPPRESSED_SENTINEL" Bundle.listD ∈ lw_tbl := by decide +kernel
theorem l_iT : Cond.initialized Bundle.tN ∈ lw_tbl := by decide +kernel
theorem l_D {s : State} {args : Array Value} (hts : ∀ w ∈ lw_tbl, w.before args s = true) : ∃ D : va_G, va_K D vwCl [] s := by
  have h : ∀ k : Nat, ∃ x : ClassId × (Nat → Nat), ∀ q, vwCl[k]? = some q → u_Kn s q.1 q.2.1 q.2.2 x.1 x.2 := by
    intro k
    cases hk : vwCl[k]? with
    | none => exact ⟨(0, fun _ => 0), fun q hq => by cases hq⟩
    | some r =>
      obtain ⟨cC, iS, hK⟩ := u_known (C := r.1) (T := r.2.1) (N := r.2.2) (n := r.2.2) hts (ai_F_all k r hk).2.2 (hts _ (of_decide_eq_true (List.all_eq_true.mp l_inst r (List.mem_of_getElem? hk))))
      exact ⟨(cC, iS), fun q hq => by cases hq; exact hK⟩
  exact ⟨(fun k => (Classical.choose (h k)).1, fun k => (Classical.choose (h k)).2), (fun k q hq => Classical.choose_spec (h k) q hq), (fun k q hq => by cases hq)⟩
def s_tm (i : Nat) : Term := if i = 0 then .string "MountYard$Talk" 140 else .string "MountYard$Talk" 146
theorem s_1 : ∀ i, i < 2 → Cond.exactly (s_tm i) "java/lang/String" ∈ flatC (Jvm.Cond.and given_1 narrow_1) := by decide +kernel
theorem s_2 : ∀ i, i < 2 → Cond.eq (.field (s_tm i) "java/lang/String" "coder" "B") (.int 0) ∈ flatC (Jvm.Cond.and given_1 narrow_1) := by decide +kernel
theorem s_3 : ∀ i, i < 2 → Cond.arrayOf (.field (s_tm i) "java/lang/String" "value" "[B") .byte ∈ flatC (Jvm.Cond.and given_1 narrow_1) := by decide +kernel
theorem s_4 : ∀ i, i < 2 → Cond.eq (.length (.field (s_tm i) "java/lang/String" "value" "[B")) (.int (Int32.ofNat (bj_len.getD i 0))) ∈ flatC (Jvm.Cond.and given_1 narrow_1) := by decide +kernel
theorem s_5 : ∀ i, i < 2 → ∀ j, j < bj_len.getD i 0 → Cond.eq (.elem (.field (s_tm i) "java/lang/String" "value" "[B") (.int (Int32.ofNat j))) (.int ((bj_byt.getD i []).getD j 0)) ∈ flatC (Jvm.Cond.and given_1 narrow_1) := by decide +kernel
theorem s_6 : Cond.not (Cond.eq (s_tm 0) (s_tm 1)) ∈ flatC (Jvm.Cond.and given_1 narrow_1) := by decide +kernel
theorem s_7 : Cond.stringRef "MountYard$Talk" 140 "9P2000" ∈ lw_tbl := by decide +kernel
theorem s_8 : Cond.stringRef "MountYard$Talk" 146 "unknown" ∈ lw_tbl := by decide +kernel
theorem s_9 : Cond.laysStatic "java/lang/String" "COMPACT_STRINGS" "Z" ∈ lw_tbl := by decide +kernel
theorem s_10 : Cond.initialized "java/lang/String" ∈ lw_tbl := by decide +kernel
theorem s_11 : Cond.eq (.static "java/lang/String" "COMPACT_STRINGS" "Z") (.int 1) ∈ flatC (Jvm.Cond.and given_1 narrow_1) := by decide +kernel
theorem s_12 : Cond.laysStatic "jdk/internal/util/Preconditions" "SIOOBE_FORMATTER" "Ljava/util/function/BiFunction;" ∈ lw_tbl := by decide +kernel
theorem s_13 : Cond.initialized "jdk/internal/util/Preconditions" ∈ lw_tbl := by decide +kernel
theorem s_14 : Cond.isRef (.static "jdk/internal/util/Preconditions" "SIOOBE_FORMATTER" "Ljava/util/function/BiFunction;") ∈ flatC (Jvm.Cond.and given_1 narrow_1) := by decide +kernel
def s_xo (b : Nat) (k v : Nat → Nat) : Nat → Nat := fun n => if n = 5 then b else if n < 200 then k (n - 100) else v (n - 200)
theorem s_S {A : Nat → Prop} {s : State} {H : Heap} {k v k' v' : Nat → Nat} (hk : ∀ i, i < 2 → k' i = k i) (hv : ∀ i, i < 2 → v' i = v i) (h : vk_S 2 bj_len bj_byt k v A s H) : vk_S 2 bj_len bj_byt k' v' A s H := by
  refine ⟨fun i hi => ?_, fun i j hi hj e => ?_⟩
  · rw [hk i hi, hv i hi]
    exact h.1 i hi
  · rw [hk i hi, hk j hj] at e
    exact h.2 i j hi hj e
/-- the law's answer, by the second machine's post -/
theorem l_conv {p : Program} {l : Launch} {e : Env} {R : Room} {s : State} {m : MethodId} {args : Array Value} {below : List Frame} {meth : Method} {c : Code} {H : Heap} {locs : List Loc} {cells slots mc ms : Nat} {g : JFrame} {D : va_G} {B : BE} {n0 : List Int} {g0 : BG} {A : Nat → Prop}
    (k : W p l e R s m args below meth c H locs cells slots (b_PQ ct_lawh D B s args below A n0 g0 mc ms) g) (hA : ∀ q, A q → s.heap.size ≤ q) (h1 : mc ≤ 600128) (h2 : ms ≤ 7301098) : W p l e R s m args below meth c H locs cells slots (lw_Z below args s) g := by
  intro T hT X
  obtain ⟨t, a1, o, b1, b2, hQ⟩ := k T hT X
  refine ⟨t, a1, o, b1, b2, ?_⟩
  have hos : t_os ct_lawh = [(.inl (some (.inl (0, (1, [])))), ([(0, 256)], [], []))] := rfl
  rcases hQ with ⟨⟨oc, ov, v, nq, g', o1, o2, hv, hO, -⟩, L, hF, hL⟩ | ⟨q, -, En, ce, L, ⟨oc, n, nq, g', o1, o2, -⟩, -⟩
  · rw [hos] at o1
    obtain rfl := List.mem_singleton.mp o1
    cases o2
    match v, hO with
    | none, hO => exact hO.elim
    | some x, hO =>
      obtain ⟨y, rfl, hy⟩ := (bv_i (B := B)).mp hO
      have hy : li_e nq (li_c 1) = some y.toInt := hy
      rw [li_e_c] at hy
      have e1 : y = 1 := Int32.toInt_inj.mp (Option.some.inj hy).symm
      subst e1
      exact ⟨hv, hF.1, hF.2.1, hF.2.2.weaken (fun x hx hlt => absurd (hA _ (hL x hx)) (Nat.not_le.mpr hlt)) h1 h2⟩
  · rw [hos] at o1
    obtain rfl := List.mem_singleton.mp o1
    cases o2
def law_h : BH := (t_hs ct_lawh).getD 0 (0, [], ([], [], []), (0, []), (0, []), none)
theorem law_in : law_h ∈ t_hs ct_lawh := List.mem_cons_self
theorem law_is : law_h = (23, [(0, .inr (.inr 5)), (1, .inr (.inl (0, (0, [])))), (2, .inr (.inl (35, (202, [])))), (3, .inr (.inl (62, (229, [])))), (4, .inl (0, (0, [(1, 1)])))], ([(0, 256), (0, 256), (0, 60)], [(0, [(0, 1), (1, -1)])], [(5, (5, []), (1, []), (0, [(2, 1)])), (35, (202, []), (26, []), (0, [(2, 1)]))]), (0, [(0, 2), (1, -2)]), (300, [(1, -1)]), none) := rfl
theorem z_lo_of {E : AE} {ws : va_W} {lv : List (Nat × Value)} (h : ai_L E ws z_lo lv) : ∃ v4 v3 v2 v1 v0 : Value, lv = [(4, v4), (3, v3), (2, v2), (1, v1), (0, v0)] ∧ v4 = .int 0 ∧ ai_V E ws (.inr (.inr (.inr (.inl (some 229))))) v3 ∧ ai_V E ws (.inr (.inr (.inr (.inl (some 202))))) v2 ∧ ai_V E ws (.inr (.inr (.inr (.inl (some 0))))) v1 ∧ v0 = .ref (e_b E) := by
  match lv, h with
  | [(n4, v4), (n3, v3), (n2, v2), (n1, v1), (n0, v0)], ⟨⟨a4, b4⟩, ⟨a3, b3⟩, ⟨a2, b2⟩, ⟨a1, b1⟩, ⟨a0, b0⟩, _⟩ =>
    have a4 : 4 = n4 := a4
    have a3 : 3 = n3 := a3
    have a2 : 2 = n2 := a2
    have a1 : 1 = n1 := a1
    have a0 : 0 = n0 := a0
    subst a4
    subst a3
    subst a2
    subst a1
    subst a0
    exact ⟨v4, v3, v2, v1, v0, rfl, b4, b3, b2, b1, (ai_VX (by decide)).mp b0⟩
  | [], h => exact h.elim
  | [_], ⟨_, h⟩ => exact h.elim
  | [_, _], ⟨_, _, h⟩ => exact h.elim
  | [_, _, _], ⟨_, _, _, h⟩ => exact h.elim
  | [_, _, _, _], ⟨_, _, _, _, h⟩ => exact h.elim
  | _ :: _ :: _ :: _ :: _ :: _ :: _, ⟨_, _, _, _, _, h⟩ => exact h.elim
set_option maxHeartbeats 4000000 in
theorem whole_start {p : Program} {e : Env} {s : State} {m : MethodId} {below : List Frame} {meth : Method} {c : Code} (l : Launch) (htr : l.stackTraces = false) (htb : c.exceptionTable.toList = []) {b L : Nat} {xs : Nat → Int32} (hL : L ≤ 256) (C0 : lw_At p s m meth c b L xs) : W p l e room_1 s m #[Value.ref b] below meth c s.heap [] 0 0 (lw_Z below #[Value.ref b] s) (entryFrame m ([Value.ref b] : List Value).toArray 7) := by
  obtain ⟨hx, hb, hr, hml, hown, hts, hX, hbl, hlocks, hgv⟩ := C0
  have hs := flat_of_before _ hgv
  obtain ⟨D, hK⟩ := l_D hts
  have hA : ∀ q : Nat, s.heap.size ≤ q → (fun q : Nat => s.heap.size ≤ q) q := fun _ h => h
  have hbA : ¬ (fun q : Nat => s.heap.size ≤ q) b := Nat.not_le.mpr hbl
  have hnA : ∀ a : Nat, a < s.heap.size → ¬ (fun q : Nat => s.heap.size ≤ q) a := fun a h => Nat.not_le.mpr h
  have hG : ai_G D s := ⟨hK, fun C hC => va_AO.of (hts _ hC), fun w hw hk => va_Nw.of (ax_kw_on hk) (hts w hw), fun a b ha hb hn => va_Nc.of (hs _ (l_nc a ha b hb hn))⟩
  have hZ : ai_Z (fun q : Nat => s.heap.size ≤ q) s s.heap := ⟨vx_Zqof (hts _ l_lU) (hts _ l_iT) (hs _ l_sU) hnA, vx_Zqof (hts _ l_lN) (hts _ l_iT) (hs _ l_sN) hnA⟩
  obtain ⟨adK, adV, hvS, hvE⟩ := vk_Sof (N := 2) (tm := s_tm) (len := bj_len) (byt := bj_byt) (args := #[Value.ref b]) (s := s) (A := fun q : Nat => s.heap.size ≤ q) (by decide) (fun i hi => hs _ (s_1 i hi)) (fun i hi => hs _ (s_2 i hi)) (fun i hi => hs _ (s_3 i hi)) (fun i hi => hs _ (s_4 i hi)) (fun i hi j hj => hs _ (s_5 i hi j hj)) (fun i j hi hj hn => by
    match i, j, hi, hj, hn with
    | 0, 0, _, _, hn => exact absurd rfl hn
    | 0, 1, _, _, _ => exact Or.inl (hs _ s_6)
    | 1, 0, _, _, _ => exact Or.inr (hs _ s_6)
    | 1, 1, _, _, hn => exact absurd rfl hn
    | i + 2, _, hi, _, _ => exact absurd hi (by omega)
    | _, j + 2, _, hj, _ => exact absurd hj (by omega)) hnA
  have F : ai_Fr mm_226 D l p s m #[Value.ref b] meth c := ⟨hx, hb, hml, hown, hr, hlocks, (fun hk => by cases hk), htb, fun w hw _ => hts w hw, hG, htr⟩
  rw [lg_entry_eq]
  have hz := z_end
  unfold z_is at hz
  split at hz
  case h_2 => cases hz
  next x hx13 =>
  simp only [Bool.and_eq_true, decide_eq_true_eq] at hz
  obtain ⟨z1, z2, z3, z4, z5, z6⟩ := hz
  have z2 := z_eqlo_ok z2
  have z3 := List.isEmpty_iff.mp z3
  have small : ∀ (j : Nat) (z : ZS), j ≤ 13 → z_run j z_0 = some z → z.2.2.2.2.1 ≤ 1000 ∧ z.2.2.2.2.2 ≤ 10000 := by
    intro j z hj hjz
    have h1 := List.all_eq_true.mp z_smalls j (List.mem_range.mpr (by omega))
    unfold z_small at h1
    rw [hjz] at h1
    simp only [Bool.and_eq_true, decide_eq_true_eq] at h1
    exact h1
  refine z_run_ok (E := (b, 0, 0, 0, fun _ => 0)) (A := fun q : Nat => s.heap.size ≤ q) F hZ hA (by decide) (by decide) 13 hx13 (fun j z hj hjz => by
    obtain ⟨h1, h2⟩ := small j z hj hjz
    exact ⟨Nat.le_trans h1 (by decide), Nat.le_trans h2 (by decide)⟩) ?_ [] s.heap [] _ (lv_args 0 [.ref b]) [] ⟨⟨rfl, (fun i e q h => by cases h)⟩, (fun k q h => by cases h), ⟨(fun i j p q h => by cases h), (fun k q h => by cases h)⟩, va_S.rf, lv_entry [.ref b] (Nat.le_of_ble_eq_true rfl), ⟨⟨rfl, (ai_VX (by decide)).mpr rfl⟩, trivial⟩, trivial⟩
  intro ws H locs ls lv vs C
  obtain ⟨hW, hP, hD, hS, hl, hLo, hSt⟩ := C
  rw [z1]
  rw [z3] at hSt
  rw [z2] at hLo
  match vs, hSt with
  | _ :: _, hSt => exact hSt.elim
  | [], _ =>
    have hW2 := ai_eqW_ok z4 hW
    obtain ⟨w1, w2, w3⟩ := z_bridge (xo := s_xo b adK adV) (scr := fun j => (xs j).toInt) z_wall hW2
    rw [w1] at hP hD
    have had : ∀ i a, ai_ad ws i = some a → b_ad (z_B ws (s_xo b adK adV)) i = a := fun i a h => z_ad h
    have hEn : b_En D (z_B ws (s_xo b adK adV)) (fun q : Nat => s.heap.size ≤ q) s := by
      refine ⟨hG, hZ, w2, ⟨?_, ?_⟩, ?_, ?_, ?_⟩
      · exact vk_R.of (hts _ s_7) (hvE 0 (by decide))
      · exact vk_R.of (hts _ s_8) (hvE 1 (by decide))
      · refine s_S (fun i hi => ?_) (fun i hi => ?_) hvS
        · show s_xo b adK adV (100 + i) = adK i
          unfold s_xo
          rw [if_neg (by omega), if_pos (by omega), show 100 + i - 100 = i by omega]
        · show s_xo b adK adV (200 + i) = adV i
          unfold s_xo
          rw [if_neg (by omega), if_neg (by omega), show 200 + i - 200 = i by omega]
      · exact va_Zof (hts _ s_9) (hts _ s_10) (va_eqi (hs _ s_11)) hnA
      · exact va_Zqof (hts _ s_12) (hts _ s_13) (hs _ s_14) hnA
    have X : b_Fx ct_lawh mm_226 l D (z_B ws (s_xo b adK adV)) p room_1 s m #[Value.ref b] meth c (fun q : Nat => s.heap.size ≤ q) [(L : Int)] (z_g ws (fun j => (xs j).toInt)) 1300 20000 := by
      refine ⟨F, hEn, hA, rfl, (fun q hq => by cases hq), by decide, by decide, by decide, by decide, fun _ => ?_⟩
      exact ⟨L, xs, hX, hbl, hbA, by omega, rfl, fun j hj => by show (if 300 = 300 then (xs j).toInt else _) = _; rw [if_pos rfl]⟩
    have Y := b_heads0 (e := e) (below := below) X mt_Mk mt_o_226 rfl (cts := ct_lawd) (fun C hC => ok_law htr C hC) (bm_lawj ck_law) law_h law_in
    have zn : ∀ i a, ai_V (b, 0, 0, 0, fun _ => 0) ws (.inr (.inr (.inr (.inl (some i))))) a → a = .ref (b_ad (z_B ws (s_xo b adK adV)) i) := fun i a h => by
      obtain ⟨q, rfl, hq⟩ := h
      rw [had i q hq]
    have nu0 : nu_le [(L : Int)] [(L : Int), 0, 0] := nu_le.ap (nu := [(L : Int)]) (ys := [0, 0])
    have e1 : li_e [(L : Int), 0, 0] (0, [(0, 1), (1, -1)]) = some (L : Int) := by
      show some (0 + (1 * (L : Int) + (-1 * 0 + 0))) = _
      exact congrArg some (by omega)
    have e1m : li_e [(L : Int), 0, 0] (0, [(0, 2), (1, -2)]) = some (2 * (L : Int)) := by
      show some (0 + (2 * (L : Int) + (-2 * 0 + 0))) = _
      exact congrArg some (by omega)
    have e2 : li_e [(L : Int), 0, 0] (300, [(1, -1)]) = some (300 : Int) := by
      show some (300 + (-1 * (0 : Int) + 0)) = _
      exact congrArg some (by omega)
    have e3 : li_e [(L : Int), 0, 0] (0, [(1, 1)]) = some (0 : Int) := by
      show some (0 + (1 * (0 : Int) + 0)) = _
      exact congrArg some (by omega)
    have e4 : li_e [(L : Int), 0, 0] (0, [(2, 1)]) = some (0 : Int) := by
      show some (0 + (1 * (0 : Int) + 0)) = _
      exact congrArg some (by omega)
    have gz1 : z_g ws (fun j => (xs j).toInt) 5 1 = 0 := by
      show (if 5 = 300 then _ else z_fx (z_at ws 5).2 1) = 0
      rw [if_neg (by decide)]
      exact z_has_ok z_0a hW2
    have gz2 : z_g ws (fun j => (xs j).toInt) 202 26 = 0 := by
      show (if 202 = 300 then _ else z_fx (z_at ws 202).2 26) = 0
      rw [if_neg (by decide)]
      exact z_has_ok z_0b hW2
    obtain ⟨v4, v3, v2, v1, v0, rfl, rfl, g3, g2, g1, rfl⟩ := z_lo_of hLo
    have g3 := zn _ _ g3
    have g2 := zn _ _ g2
    have g1 := zn _ _ g1
    subst g3
    subst g2
    subst g1
    refine l_conv (mc := 1300) (ms := 20000) (Y [(L : Int), 0, 0] (z_g ws (fun j => (xs j).toInt)) H locs x.2.2.2.2.1 x.2.2.2.2.2 ls [(0, .ref b), (1, .ref (b_ad (z_B ws (s_xo b adK adV)) 0)), (2, .ref (b_ad (z_B ws (s_xo b adK adV)) 202)), (3, .ref (b_ad (z_B ws (s_xo b adK adV)) 229)), (4, .int 0)]
      ⟨nu0, bg_same.rf, w3, ?_, hP, hD, hS, 300, e2, by omega, by omega⟩ ⟨hl.1, hl.2.1, fun q hq => hl.2.2 q (by
        simp only [List.mem_cons, List.not_mem_nil, or_false] at hq ⊢
        rcases hq with rfl | rfl | rfl | rfl | rfl
        · exact Or.inr (Or.inr (Or.inr (Or.inr rfl)))
        · exact Or.inr (Or.inr (Or.inr (Or.inl rfl)))
        · exact Or.inr (Or.inr (Or.inl rfl))
        · exact Or.inr (Or.inl rfl)
        · exact Or.inl rfl)⟩ ?_ ⟨_, e1m, fun z0 hz0 => by cases hz0⟩) (fun q h => h) (by decide) (by decide)
    · refine ⟨⟨rfl, fun n y hn => ?_⟩, fun f hf => ?_, fun q hq => ?_⟩
      · match n, hn with
        | 0, hn => cases hn; exact ⟨(0, 256), rfl, by show (0 : Int) ≤ _; omega, by show _ ≤ (256 : Int); omega⟩
        | 1, hn => cases hn; exact ⟨(0, 256), rfl, by show (0 : Int) ≤ 0; omega, by show (0 : Int) ≤ 256; omega⟩
        | 2, hn => cases hn; exact ⟨(0, 60), rfl, by show (0 : Int) ≤ 0; omega, by show (0 : Int) ≤ 60; omega⟩
      · obtain rfl := List.mem_singleton.mp hf
        exact ⟨_, e1, by omega⟩
      · have hq : q ∈ [(5, ((5 : Int), []), ((1 : Int), []), ((0 : Int), [(2, (1 : Int))])), (35, ((202 : Int), []), ((26 : Int), []), ((0 : Int), [(2, (1 : Int))]))] := hq
        simp only [List.mem_cons, List.not_mem_nil, or_false] at hq
        rcases hq with rfl | rfl
        · unfold bc_e
          rw [if_pos (by decide)]
          exact ⟨5, 1, rfl, rfl, by decide, by decide, by rw [gz1]; exact e4⟩
        · unfold bc_e
          rw [if_pos (by decide)]
          exact ⟨202, 26, rfl, rfl, by decide, by decide, by rw [gz2]; exact e4⟩
    · exact ⟨⟨rfl, rfl⟩, ⟨rfl, 0, rfl, li_e_c _ 0, by decide, by decide⟩, ⟨rfl, 202, rfl, li_e_c _ 202, by decide, by decide⟩, ⟨rfl, 229, rfl, li_e_c _ 229, by decide, by decide⟩, ⟨rfl, 0, rfl, e3⟩, trivial⟩
