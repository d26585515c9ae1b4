/-! ===== from the first machine's world to the second's ===== -/
def z_fx (x : va_E) (j : Nat) : Int := match x with
  | .inl q => match q.2.2 with
    | .inl f => (f j).toInt
    | .inr (.inl f) => (f j).toInt
    | _ => 0
  | .inr q => match q.2[j]? with
    | some (.int c) => c.toInt
    | some (.long c) => c.toInt
    | _ => 0
def z_cl (x : va_E) : ClassId := match x with
  | .inl q => q.1
  | .inr _ => 0
def z_rr (x : va_E) : Nat → Option Nat := match x with
  | .inl q => match q.2.2 with
    | .inr (.inr (.inr (.inr f))) => f
    | _ => fun _ => none
  | .inr _ => fun _ => none
def z_at (ws : va_W) (P : Nat) : Nat × va_E := ws.getD P (0, .inr (0, []))
def z_B (ws : va_W) (xo : Nat → Nat) : BE := (fun P => (z_at ws P).1, fun P => z_cl (z_at ws P).2, fun P => z_rr (z_at ws P).2, xo)
def z_g (ws : va_W) (scr : Nat → Int) : BG := fun P j => if P = 300 then scr j else z_fx (z_at ws P).2 j
def z_v (P j : Nat) (v : AV) (f : BF) : Bool := match v, f with
  | .inl c, .inl q => decide (q.1 = 0 ∧ q.2.1 ≤ c.toInt ∧ c.toInt ≤ q.2.2)
  | .inr (.inr (.inl (some c))), .inl q => decide (q.1 = 1 ∧ q.2.1 ≤ c.toInt ∧ c.toInt ≤ q.2.2)
  | .inr (.inr (.inr (.inl (some i)))), .inr q => decide ((i : Int) = bk_to q P j)
  | _, _ => false
def z_fit (P : Nat) (a : AC) : Bool := match a, bk_tab[bk_at P]? with
  | .inr o, some (.inl q) => decide (o.1 = q.1) && (decide (o.2.length = q.2.length) && (List.range q.2.length).all (fun j => match o.2[j]?, q.2[j]? with
    | some v, some f => z_v P j v f
    | _, _ => false))
  | .inl o, some (.inr q) => decide (o.1 = q.1) && (decide (o.2.1 = q.2.1) && (List.range o.2.1).all (fun j => z_v P j (o.2.2 j) q.2.2))
  | _, _ => false
def z_all (σ : List AC) : Bool := decide (σ.length = 230) && (List.range 230).all (fun P => match σ[P]? with
  | some a => z_fit P a
  | none => false)
theorem z_t4 {t : Nat} {q : Nat × Int × Int × Int} (h : bk_ta t (.inr q) = true) : ∃ t4, t = t4 + 4 := by
  match t, h with
  | 0, h => cases h
  | 1, h => cases h
  | 2, h => cases h
  | 3, h => cases h
  | t4 + 4, _ => exact ⟨t4, rfl⟩
section ZBR
variable {E : AE} {s : State} {ws : va_W} {xo : Nat → Nat} {scr : Nat → Int}
theorem z_at_of {P : Nat} {q : Nat × va_E} (h : ws[P]? = some q) : z_at ws P = q := by
  unfold z_at
  rw [List.getD_eq_getElem?_getD, h]
  rfl
theorem z_ad {i a : Nat} (h : ai_ad ws i = some a) : b_ad (z_B ws xo) i = a := by
  unfold ai_ad at h
  cases hw : ws[i]? with
  | none => rw [hw] at h; cases h
  | some q =>
    rw [hw] at h
    show (z_at ws i).1 = a
    rw [z_at_of hw]
    exact Option.some.inj h
/-- an int that is known -/
theorem z_vI {P j : Nat} {v : AV} {q : Nat × Int × Int} (h : z_v P j v (.inl q) = true) {x : Value} (hv : ai_V E ws v x) : (q.1 = 0 ∧ ∃ c : Int32, x = .int c ∧ q.2.1 ≤ c.toInt ∧ c.toInt ≤ q.2.2) ∨ (q.1 = 1 ∧ ∃ c : Int64, x = .long c ∧ q.2.1 ≤ c.toInt ∧ c.toInt ≤ q.2.2) := by
  unfold z_v at h
  split at h
  · next c q' e =>
    cases e
    obtain ⟨h1, h2, h3⟩ := of_decide_eq_true h
    exact Or.inl ⟨h1, c, hv, h2, h3⟩
  · next c q' e =>
    cases e
    obtain ⟨h1, h2, h3⟩ := of_decide_eq_true h
    exact Or.inr ⟨h1, c, hv, h2, h3⟩
  · next e => cases e
  · cases h
theorem z_vR {P j : Nat} {v : AV} {q : Nat × Int × Int × Int} (h : z_v P j v (.inr q) = true) {x : Value} (hv : ai_V E ws v x) : x = .ref (b_ad (z_B ws xo) (bk_to q P j).toNat) := by
  unfold z_v at h
  split at h
  · next e => cases e
  · next e => cases e
  · next i q' e =>
    cases e
    have h := of_decide_eq_true h
    obtain ⟨a, rfl, ha⟩ := hv
    rw [show (bk_to q P j).toNat = i by omega, z_ad ha]
  · cases h
theorem z_cell {P : Nat} {x : va_E} {a : AC} (hz : z_fit P a = true) (hc : ai_C E s ws a x) (hat : (z_at ws P).2 = x) : bw_cell (z_B ws xo) (fun j => z_fx x j) P = x ∧ (∀ (j : Nat) (q : Nat × Int × Int), bk_spec (bk_at P) j = some (.inl q) → q.2.1 ≤ z_fx x j ∧ z_fx x j ≤ q.2.2) ∧
    ∀ (t n : Nat) (f : BF), bk_tab[bk_at P]? = some (.inr (t, n, f)) → ArrOfT s (b_ac (z_B ws xo) P) (ai_ty t) ∧ va_RA s (b_ac (z_B ws xo) P) (ai_ty t) ∧ ∀ q : Nat × Int × Int × Int, f = .inr q → ∀ j, j < n → b_rr (z_B ws xo) P j = some (b_ad (z_B ws xo) (bk_to q P j).toNat) := by
  unfold z_fit at hz
  split at hz
  · next o q hk =>
    simp only [Bool.and_eq_true, decide_eq_true_eq, List.all_eq_true] at hz
    obtain ⟨h1, h2, h3⟩ := hz
    obtain ⟨o1, o2⟩ := o
    obtain ⟨ci, fs⟩ := q
    have h1 : o1 = ci := h1
    subst h1
    match x, hc with
    | .inl _, hc => exact hc.elim
    | .inr y, hc =>
      obtain ⟨y1, vs⟩ := y
      obtain ⟨g1, g2⟩ := hc
      have g1 : o1 = y1 := g1
      subst g1
      have hlen : vs.length = fs.length := (ai_S_len g2).symm.trans h2
      have key : ∀ (j : Nat) (f : BF), fs[j]? = some f → ∃ v, vs[j]? = some v ∧ (∃ w, z_v P j w f = true ∧ ai_V E ws w v) := by
        intro j f hf
        have hj := (List.getElem?_eq_some_iff.mp hf).1
        have h4 := h3 j (List.mem_range.mpr hj)
        split at h4
        · next w f' e1 e2 =>
          rw [hf] at e2
          cases e2
          obtain ⟨v, v1, v2⟩ := ai_S_get g2 e1
          exact ⟨v, v1, w, h4, v2⟩
        · cases h4
      refine ⟨?_, ?_, fun t n f hk2 => by rw [hk] at hk2; cases hk2⟩
      · rw [bw_o hk]
        congr 2
        apply List.ext_getElem?
        intro j
        cases hf : fs[j]? with
        | none =>
          rw [List.getElem?_eq_none (by rw [bw_fs_len]; exact List.getElem?_eq_none_iff.mp hf), List.getElem?_eq_none (by rw [hlen]; exact List.getElem?_eq_none_iff.mp hf)]
        | some f =>
          obtain ⟨v, v1, w, w1, w2⟩ := key j f hf
          rw [bw_fs_get hf, v1]
          congr 1
          cases f with
          | inl q =>
            rcases z_vI w1 w2 with ⟨e0, c, rfl, -⟩ | ⟨e0, c, rfl, -⟩
            · rw [bw_f0 e0]
              show Value.int (Int32.ofInt (z_fx (.inr (o1, vs)) j)) = _
              unfold z_fx
              dsimp only
              rw [v1]
              dsimp only
              rw [fb_asI]
            · rw [bw_f1 e0]
              show Value.long (Int64.ofInt (z_fx (.inr (o1, vs)) j)) = _
              unfold z_fx
              dsimp only
              rw [v1]
              dsimp only
              rw [fb_asL]
          | inr q => exact (z_vR w1 w2).symm
      · intro j q hq
        rw [bk_sO hk] at hq
        obtain ⟨v, v1, w, w1, w2⟩ := key j _ hq
        unfold z_fx
        dsimp only
        rw [v1]
        rcases z_vI w1 w2 with ⟨-, c, rfl, h5⟩ | ⟨-, c, rfl, h5⟩
        · exact h5
        · exact h5
  · next o q hk =>
    simp only [Bool.and_eq_true, decide_eq_true_eq, List.all_eq_true] at hz
    obtain ⟨h1, h2, h3⟩ := hz
    obtain ⟨o1, o2, of⟩ := o
    obtain ⟨t, n, f⟩ := q
    have h1 : o1 = t := h1
    have h2 : o2 = n := h2
    subst h1
    subst h2
    match x, hc with
    | .inr _, hc => exact hc.elim
    | .inl y, hc =>
      obtain ⟨cA, n', y⟩ := y
      obtain ⟨g1, g2, g3, g4⟩ := hc
      have g1 : o2 = n' := g1
      subst g1
      have hcl : b_ac (z_B ws xo) P = cA := by
        show z_cl (z_at ws P).2 = cA
        rw [hat]
        rfl
      obtain ⟨hta, -⟩ := bk_arr hk
      have k3 : ∀ j, j < o2 → z_v P j (of j) f = true := fun j hj => h3 j (List.mem_range.mpr hj)
      have g4 : ai_A E ws o2 (ai_kd o1) of y := g4
      cases f with
      | inl q =>
        obtain ⟨w1, w2, w3⟩ := bk_ta_w hta
        have hsp : ∀ (j : Nat) (q' : Nat × Int × Int), bk_spec (bk_at P) j = some (.inl q') → j < o2 ∧ q' = q := by
          intro j q' hq
          unfold bk_spec at hq
          rw [hk] at hq
          dsimp only at hq
          split at hq
          · next hj => cases hq; exact ⟨hj, rfl⟩
          · cases hq
        rcases w1 with ⟨e0, -⟩ | ⟨e0, -⟩
        · obtain ⟨u1, -⟩ := w2 e0
          rw [u1] at g4
          match y, g4 with
          | .inl fI, g4 =>
            refine ⟨?_, ?_, fun t n f hk2 => ?_⟩
            · rw [bw_a hk, hcl]
              unfold bw_ar
              rw [if_pos u1]
              have e : (fun j => Int32.ofInt (z_fx (.inl (cA, o2, .inl fI)) j)) = fI := by
                funext j
                show Int32.ofInt (fI j).toInt = fI j
                rw [fb_asI]
              rw [e]
            · intro j q' hq
              obtain ⟨hj, rfl⟩ := hsp j q' hq
              rcases z_vI (k3 j hj) (g4 j hj) with ⟨-, c, hc, h5⟩ | ⟨e1, -⟩
              · cases hc
                exact h5
              · omega
            · rw [hk] at hk2
              cases hk2
              exact ⟨by rw [hcl]; exact g2, by rw [hcl]; exact g3, fun q hq => by cases hq⟩
          | .inr (.inl _), g4 => exact g4.elim
          | .inr (.inr (.inl _)), g4 => exact g4.elim
          | .inr (.inr (.inr (.inl _))), g4 => exact g4.elim
          | .inr (.inr (.inr (.inr _))), g4 => exact g4.elim
        · have e2 := w3 e0
          subst e2
          match y, g4 with
          | .inr (.inl fL), g4 =>
            refine ⟨?_, ?_, fun t n f hk2 => ?_⟩
            · rw [bw_a hk, hcl]
              unfold bw_ar
              rw [if_neg (by decide), if_pos (show ai_kd 2 = 1 from rfl)]
              have e : (fun j => Int64.ofInt (z_fx (.inl (cA, o2, .inr (.inl fL))) j)) = fL := by
                funext j
                show Int64.ofInt (fL j).toInt = fL j
                rw [fb_asL]
              rw [e]
            · intro j q' hq
              obtain ⟨hj, rfl⟩ := hsp j q' hq
              rcases z_vI (k3 j hj) (g4 j hj) with ⟨e1, -⟩ | ⟨-, c, hc, h5⟩
              · omega
              · cases hc
                exact h5
            · rw [hk] at hk2
              cases hk2
              exact ⟨by rw [hcl]; exact g2, by rw [hcl]; exact g3, fun q hq => by cases hq⟩
          | .inl _, g4 => exact g4.elim
          | .inr (.inr (.inl _)), g4 => exact g4.elim
          | .inr (.inr (.inr (.inl _))), g4 => exact g4.elim
          | .inr (.inr (.inr (.inr _))), g4 => exact g4.elim
      | inr q =>
        have h4 : ∃ t4, o1 = t4 + 4 := z_t4 hta
        obtain ⟨t4, rfl⟩ := h4
        match y, g4 with
        | .inr (.inr (.inr (.inr fr))), g4 =>
          have hrr : b_rr (z_B ws xo) P = fr := by
            show z_rr (z_at ws P).2 = fr
            rw [hat]
            rfl
          refine ⟨?_, ?_, fun t n f hk2 => ?_⟩
          · rw [bw_a hk, hcl]
            unfold bw_ar
            rw [if_neg (by show ¬ (2 = 0); decide), if_neg (by show ¬ (2 = 1); decide), hrr]
          · intro j q' hq
            unfold bk_spec at hq
            rw [hk] at hq
            dsimp only at hq
            split at hq <;> cases hq
          · rw [hk] at hk2
            cases hk2
            refine ⟨by rw [hcl]; exact g2, by rw [hcl]; exact g3, fun q' hq' j hj => ?_⟩
            cases hq'
            have hv := z_vR (xo := xo) (k3 j hj) (g4 j hj)
            rw [hrr]
            cases hfr : fr j with
            | none => rw [hfr] at hv; cases hv
            | some a0 =>
              rw [hfr] at hv
              have hv : Value.ref a0 = _ := hv
              rw [Value.ref.inj hv]
        | .inl _, g4 => exact g4.elim
        | .inr (.inl _), g4 => exact g4.elim
        | .inr (.inr (.inl _)), g4 => exact g4.elim
        | .inr (.inr (.inr (.inl _))), g4 => exact g4.elim
  · cases hz
theorem z_bridge {σ : List AC} (hz : z_all σ = true) (hW : ai_W E s σ ws) : ws = bw (z_B ws xo) (z_g ws scr) ∧ bb_ok (z_B ws xo) s ∧ bw_ok (z_g ws scr) := by
  unfold z_all at hz
  rw [Bool.and_eq_true, decide_eq_true_eq] at hz
  have hlen : ws.length = 230 := hW.1.symm.trans hz.1
  have get : ∀ P, P < 230 → ∃ q, ws[P]? = some q ∧ (bw_cell (z_B ws xo) (fun j => z_fx q.2 j) P = q.2 ∧ (∀ (j : Nat) (r : Nat × Int × Int), bk_spec (bk_at P) j = some (.inl r) → r.2.1 ≤ z_fx q.2 j ∧ z_fx q.2 j ≤ r.2.2) ∧
      ∀ (t n : Nat) (f : BF), bk_tab[bk_at P]? = some (.inr (t, n, f)) → ArrOfT s (b_ac (z_B ws xo) P) (ai_ty t) ∧ va_RA s (b_ac (z_B ws xo) P) (ai_ty t) ∧ ∀ q : Nat × Int × Int × Int, f = .inr q → ∀ j, j < n → b_rr (z_B ws xo) P j = some (b_ad (z_B ws xo) (bk_to q P j).toNat)) := by
    intro P hP
    have h1 := List.all_eq_true.mp hz.2 P (List.mem_range.mpr hP)
    split at h1
    · next a ha =>
      obtain ⟨q, q1, q2⟩ := hW.get ha
      exact ⟨q, q1, z_cell h1 q2 (by rw [z_at_of q1])⟩
    · cases h1
  have row : ∀ P, P < 230 → ∀ q, ws[P]? = some q → z_g ws scr P = fun j => z_fx q.2 j := by
    intro P hP q hq
    funext j
    show (if P = 300 then scr j else z_fx (z_at ws P).2 j) = _
    rw [if_neg (by omega), z_at_of hq]
  refine ⟨?_, ?_, ?_⟩
  · apply List.ext_getElem?
    intro P
    by_cases hP : P < 230
    · obtain ⟨q, q1, q2, -⟩ := get P hP
      rw [bw_get _ _ hP, row P hP q q1, q2, q1]
      show some q = some ((z_at ws P).1, q.2)
      rw [z_at_of q1]
    · rw [List.getElem?_eq_none (by omega), List.getElem?_eq_none (by unfold bw; rw [List.length_map, List.length_range]; omega)]
  · intro P t n f hP hk
    obtain ⟨q, q1, -, -, q4⟩ := get P hP
    exact q4 t n f hk
  · intro P j r hP hr
    obtain ⟨q, q1, -, q3, -⟩ := get P hP
    rw [row P hP q q1]
    exact q3 j r hr
end ZBR
set_option maxRecDepth 100000 in
theorem z_wall : z_all z_w = true := by decide +kernel
/-- a field that is 0 behind the constructors -/
def z_has (σ : List AC) (P j : Nat) : Bool := match σ[P]? with
  | some (.inr o) => (match o.2[j]? with
    | some (.inl x) => decide (x = 0)
    | _ => false)
  | _ => false
theorem z_has_ok {E : AE} {s : State} {ws : va_W} {σ : List AC} {P j : Nat} (h : z_has σ P j = true) (hW : ai_W E s σ ws) : z_fx (z_at ws P).2 j = 0 := by
  unfold z_has at h
  split at h
  · next o ho =>
    split at h
    · next x hx =>
      have e := of_decide_eq_true h
      subst e
      obtain ⟨q, q1, q2⟩ := hW.get ho
      rw [z_at_of q1]
      obtain ⟨qa, qv⟩ := q
      match qv, q2 with
      | .inl _, hc => exact hc.elim
      | .inr (y1, vs), hc =>
        obtain ⟨g1, g2⟩ := hc
        obtain ⟨v, v1, v2⟩ := ai_S_get g2 hx
        have v2 : v = .int 0 := v2
        subst v2
        unfold z_fx
        dsimp only
        rw [v1]
        rfl
    · cases h
  · cases h
set_option maxRecDepth 100000 in
theorem z_0a : z_has z_w 5 1 = true := by decide +kernel
set_option maxRecDepth 100000 in
theorem z_0b : z_has z_w 202 26 = true := by decide +kernel
