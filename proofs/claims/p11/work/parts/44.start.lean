/-! ===== the law's start: to the loop's head, by the first machine ===== -/
abbrev ZS : Type := Nat × ALo × List AV × List AC × Nat × Nat
theorem z_callk {x len k t : Nat} {st : List AV} {σ : List AC} {r : AM × List AV × List AV} (h : ai_call mt (.invokespecial x) len [k, t] st σ = some r) : mt[k]? = some r.1 := by
  match len, h with
  | 0, h => cases h
  | 1, h => cases h
  | 2, h => cases h
  | n + 4, h => cases h
  | 3, h =>
    have h : (match mt[k]? with
      | some M => match st.drop (m_n M) with
        | x :: r => match ai_rf x with
          | some _ => if m_kind M = 2 ∧ (r.map ai_wd).sum ≤ 8 then some (M, x :: (st.take (m_n M)).reverse, r) else none
          | none => none
        | [] => none
      | none => none) = some r := h
    cases hM : mt[k]? with
    | none => rw [hM] at h; cases h
    | some M =>
      rw [hM] at h
      dsimp only at h
      split at h
      · split at h
        · split at h
          · cases h; rfl
          · cases h
        · cases h
      · cases h
def z_step (x : ZS) : Option ZS := match mc_226_0.find? (fun q => q.1 == x.1) with
  | none => none
  | some q => match ai_pu none 7 q.2.1 q.2.2.1 x.1 x.2.1 x.2.2.1 with
    | some r => some (r.1, r.2.1, r.2.2, x.2.2.2.1, x.2.2.2.2.1, x.2.2.2.2.2)
    | none => match ai_h3 q.2.1 q.2.2.1 q.2.2.2 x.2.2.1 x.2.2.2.1 with
      | some r => some (x.1 + q.2.2.1, x.2.1, .inr (.inr (.inr (.inl (some x.2.2.2.1.length)))) :: r.1, x.2.2.2.1 ++ [r.2.1], x.2.2.2.2.1 + 1, x.2.2.2.2.2 + r.2.2)
      | none => match q.2.1, q.2.2.2 with
        | .invokespecial ix, [kk, tt] => match ai_call mt (.invokespecial ix) q.2.2.1 [kk, tt] x.2.2.1 x.2.2.2.1 with
          | some r => match x_lk kk r.2.1 x.2.2.2.1 with
            | some y => some (x.1 + 3, x.2.1, r.2.2, y.1, x.2.2.2.2.1 + y.2.1, x.2.2.2.2.2 + y.2.2)
            | none => none
          | none => none
        | _, _ => none
def z_run : Nat → ZS → Option ZS
  | 0, x => some x
  | n + 1, x => match z_step x with
    | some y => z_run n y
    | none => none
section ZRN
variable {l : Launch} {D : va_G} {E : AE} {p : Program} {e : Env} {R : Room} {s : State} {m : MethodId} {args : Array Value} {below : List Frame} {meth : Method} {c : Code} {A : Nat → Prop} {Q : State → Prop}
def z_C (D : va_G) (E : AE) (s : State) (A : Nat → Prop) (x : ZS) (ws : va_W) (H : Heap) (locs : List Loc) (ls : Array Slot) (lv : List (Nat × Value)) (vs : List Value) : Prop := ai_W E s x.2.2.2.1 ws ∧ va_P D vwCl ws H ∧ va_D A ws ∧ va_S A s.heap H locs ∧ lv_has ls 7 lv ∧ ai_L E ws x.2.1 lv ∧ ai_S E ws x.2.2.1 vs
set_option maxHeartbeats 4000000 in
theorem z_step_ok (F : ai_Fr mm_226 D l p s m args meth c) (hZ : ai_Z A s s.heap) (hA : ∀ q, s.heap.size ≤ q → A q) (hfr : 13 ≤ R.frames) (hlo : 36 * 13 ≤ R.locals) {x y : ZS} (h : z_step x = some y) (hc : y.2.2.2.2.1 ≤ R.cells) (hs : y.2.2.2.2.2 ≤ R.slots)
    (k : ∀ (ws : va_W) (H : Heap) (locs : List Loc) (ls : Array Slot) (lv : List (Nat × Value)) (vs : List Value), z_C D E s A y ws H locs ls lv vs → W p l e R s m args below meth c H locs y.2.2.2.2.1 y.2.2.2.2.2 Q (F0 m y.1 ls vs))
    {ws : va_W} {H : Heap} {locs : List Loc} {ls : Array Slot} {lv : List (Nat × Value)} {vs : List Value} (C : z_C D E s A x ws H locs ls lv vs) : W p l e R s m args below meth c H locs x.2.2.2.2.1 x.2.2.2.2.2 Q (F0 m x.1 ls vs) := by
  obtain ⟨hW, hP, hD, hS, hl, hL, hSt⟩ := C
  obtain ⟨hx, hb, hml, hown, hr, hlocks, hini, htab, hT, hG, htr⟩ := id F
  obtain ⟨pc, lo, st, σ, cells, slots⟩ := x
  unfold z_step at h
  dsimp only at h hW hP hD hS hl hL hSt ⊢
  split at h
  · cases h
  next q hq =>
  have hmem : q ∈ m_code mm_226 := List.mem_append_left _ (List.mem_of_find?_eq_some hq)
  have hpc : q.1 = pc := by have := List.find?_some hq; exact beq_iff_eq.mp this
  obtain ⟨qpc, i, len, aux⟩ := q
  have hpc : qpc = pc := hpc
  subst hpc
  have hrow := List.all_eq_true.mp mt_o_226 _ hmem
  unfold b_row ai_row at hrow
  simp only [Bool.and_eq_true, decide_eq_true_eq] at hrow
  obtain ⟨⟨⟨⟨hd, hchk⟩, hck2⟩, -⟩, -⟩ := hrow
  dsimp only at h hd hchk
  split at h
  · next r h1 =>
    cases h
    exact ai_pu_ok (op := none) (fun k hk => by cases hk) hx hb hd hl hL hSt h1 (fun ls' lv' vs' hl' hL' hS' => k ws H locs ls' lv' vs' ⟨hW, hP, hD, hS, hl', hL', hS'⟩)
  split at h
  · next r h1 =>
    cases h
    exact ai_h3_ok (st' := r.1) (ce := r.2.1) (ds := r.2.2) hx hb hown hT hG.2.1 hG.1 hd hchk hW hP hD hS hA hSt h1 hc hs (fun ws' H' vs' hE' hW' hP' hD' hS' hSt' => k ws' H' locs ls lv vs' ⟨hW', hP', hD', hS', hl, hL.mono hE', hSt'⟩)
  split at h
  · next ix kk tt =>
    split at h
    · next r hcall =>
      obtain ⟨M', as, rest⟩ := r
      split at h
      · next y2 hy =>
        cases h
        have hM' := z_callk hcall
        have ct := x_lk_ok (l := l) (D := D) (E := E) htr hM' hy
        obtain ⟨hlen, -, vr, av, hvr, run⟩ := ai_callrun (below := below) (R := R) (cells := cells) (slots := slots) (e := e) F hZ hA hW hP hD hS hl hSt hd hck2 hcall mt_A ct (fun _ => ⟨none, rfl⟩) hfr hlo hc hs
        have hlen : len = 3 := hlen
        subst hlen
        refine ai_after run hA hD hS (fun ov v' ws' H' locs' ho hO hW' hE' hP' hD' hS' => ?_) (fun n ws' H' locs' q ce ho => by cases ho)
        cases ho
        match v', hO with
        | none, _ => exact k ws' H' locs' ls lv vr ⟨hW', hP', hD', hS', hl, hL.mono hE', hvr.mono hE'⟩
        | some _, hO => exact hO.elim
      · cases h
    · cases h
  · cases h
theorem z_le {n : Nat} : ∀ {x y : ZS}, z_run n x = some y → True := fun _ => trivial
theorem z_run_ok (F : ai_Fr mm_226 D l p s m args meth c) (hZ : ai_Z A s s.heap) (hA : ∀ q, s.heap.size ≤ q → A q) (hfr : 13 ≤ R.frames) (hlo : 36 * 13 ≤ R.locals) : ∀ (n : Nat) {x y : ZS}, z_run n x = some y → (∀ (j : Nat) (z : ZS), j ≤ n → z_run j x = some z → z.2.2.2.2.1 ≤ R.cells ∧ z.2.2.2.2.2 ≤ R.slots) →
    (∀ (ws : va_W) (H : Heap) (locs : List Loc) (ls : Array Slot) (lv : List (Nat × Value)) (vs : List Value), z_C D E s A y ws H locs ls lv vs → W p l e R s m args below meth c H locs y.2.2.2.2.1 y.2.2.2.2.2 Q (F0 m y.1 ls vs)) →
    ∀ (ws : va_W) (H : Heap) (locs : List Loc) (ls : Array Slot) (lv : List (Nat × Value)) (vs : List Value), z_C D E s A x ws H locs ls lv vs → W p l e R s m args below meth c H locs x.2.2.2.2.1 x.2.2.2.2.2 Q (F0 m x.1 ls vs)
  | 0, x, y, h, _, k => by cases h; exact k
  | n + 1, x, y, h, hb, k => by
    have h : (match z_step x with
      | some y => z_run n y
      | none => none) = some y := h
    split at h
    · next x1 hx1 =>
      have hrj : ∀ j z, z_run j x1 = some z → z_run (j + 1) x = some z := fun j z hz => by
        show (match z_step x with
          | some y => z_run j y
          | none => none) = some z
        rw [hx1]
        exact hz
      intro ws H locs ls lv vs C
      obtain ⟨b1, b2⟩ := hb 1 x1 (by omega) (hrj 0 x1 rfl)
      exact z_step_ok F hZ hA hfr hlo hx1 b1 b2 (fun ws' H' locs' ls' lv' vs' C' => z_run_ok F hZ hA hfr hlo n h (fun j z hj hz => hb (j + 1) z (by omega) (hrj j z hz)) k ws' H' locs' ls' lv' vs' C') C
    · cases h
end ZRN
def z_lo : ALo := [(4, .inl 0), (3, .inr (.inr (.inr (.inl (some 229))))), (2, .inr (.inr (.inr (.inl (some 202))))), (1, .inr (.inr (.inr (.inl (some 0))))), (0, .inr (.inr (.inr (.inr 5))))]
def z_w : List AC := w_1 ++ (w_m ++ [.inl (2, 1, fun _ => .inr (.inr (.inl (some 0))))])
def z_0 : ZS := (0, [(0, .inr (.inr (.inr (.inr 5))))], [], [], 0, 0)
def z_eqlo : ALo → ALo → Bool
  | [], [] => true
  | a :: as, b :: bs => decide (a.1 = b.1) && (ai_eqV a.2 b.2 && z_eqlo as bs)
  | _, _ => false
theorem z_eqlo_ok : ∀ {a b : ALo}, z_eqlo a b = true → a = b
  | [], [], _ => rfl
  | [], _ :: _, h => by cases h
  | _ :: _, [], h => by cases h
  | (a1, a2) :: as, (b1, b2) :: bs, h => by
    have h : (decide (a1 = b1) && (ai_eqV a2 b2 && z_eqlo as bs)) = true := h
    rw [Bool.and_eq_true, Bool.and_eq_true, decide_eq_true_eq] at h
    obtain ⟨h1, h2, h3⟩ := h
    rw [h1, of_decide_eq_true h2, z_eqlo_ok h3]
def z_is (r : Option ZS) : Bool := match r with
  | some x => decide (x.1 = 23) && (z_eqlo x.2.1 z_lo && (x.2.2.1.isEmpty && (ai_eqW x.2.2.2.1 z_w && (decide (x.2.2.2.2.1 ≤ 1000) && decide (x.2.2.2.2.2 ≤ 10000)))))
  | none => false
def z_small (j : Nat) : Bool := match z_run j z_0 with
  | some x => decide (x.2.2.2.2.1 ≤ 1000) && decide (x.2.2.2.2.2 ≤ 10000)
  | none => true
set_option maxRecDepth 100000 in
theorem z_end : z_is (z_run 13 z_0) = true := by decide +kernel
set_option maxRecDepth 100000 in
theorem z_smalls : (List.range 14).all z_small = true := by decide +kernel
