/-! ===== machine B: a pattern's names matched with forms ===== -/
def li_st (th : List Li) : LT → Option Li
  | [] => some (li_c 0)
  | q :: r => match th[q.1]?, li_st th r with
    | some a, some b => some (li_add (li_mul q.2 a) b)
    | _, _ => none
def li_s (th : List Li) (a : Li) : Option Li := match li_st th a.2 with
  | some b => some (li_sh a.1 b)
  | none => none
/-- what the forms of a pattern's names are worth -/
def li_T (nu : List Int) (th : List Li) (np : List Int) : Prop := th.length = np.length ∧ ∀ (i : Nat) (a : Li), th[i]? = some a → ∃ x, np[i]? = some x ∧ li_e nu a = some x
theorem li_T.mono {nu nv : List Int} (h : nu_le nu nv) {th : List Li} {np : List Int} (k : li_T nu th np) : li_T nv th np := ⟨k.1, fun i a ha => by
  obtain ⟨x, h1, h2⟩ := k.2 i a ha
  exact ⟨x, h1, li_e_mono h h2⟩⟩
theorem li_T.nil {nu : List Int} : li_T nu [] [] := ⟨rfl, fun i a h => by cases h⟩
theorem li_T.push {nu : List Int} {th : List Li} {np : List Int} (k : li_T nu th np) {a : Li} {x : Int} (h : li_e nu a = some x) : li_T nu (th ++ [a]) (np ++ [x]) := by
  refine ⟨by rw [List.length_append, List.length_append, k.1]; rfl, fun i b hb => ?_⟩
  by_cases hi : i < th.length
  · rw [List.getElem?_append_left hi] at hb
    obtain ⟨y, h1, h2⟩ := k.2 i b hb
    exact ⟨y, by rw [List.getElem?_append_left (by rw [← k.1]; exact hi)]; exact h1, h2⟩
  · rw [List.getElem?_append_right (by omega)] at hb
    have hz : i - th.length < 1 := (List.getElem?_eq_some_iff.mp hb).1
    rw [show i - th.length = 0 by omega] at hb
    cases hb
    refine ⟨x, ?_, h⟩
    rw [List.getElem?_append_right (by rw [← k.1]; omega), ← k.1, show i - th.length = 0 by omega]
    rfl
theorem li_st_ok {nu : List Int} {th : List Li} {np : List Int} (k : li_T nu th np) : ∀ {a : LT} {b : Li}, li_st th a = some b → ∃ x, li_t np a = some x ∧ li_e nu b = some x
  | [], b, h => by cases h; exact ⟨0, rfl, li_e_c nu 0⟩
  | q :: r, b, h => by
    have h : (match th[q.1]?, li_st th r with
      | some a, some b => some (li_add (li_mul q.2 a) b)
      | _, _ => none) = some b := h
    split at h
    · next a b' h1 h2 =>
      cases h
      obtain ⟨x, x1, x2⟩ := k.2 _ _ h1
      obtain ⟨y, y1, y2⟩ := li_st_ok k h2
      exact ⟨_, li_t_mk x1 y1, li_e_add (li_e_mul q.2 x2) y2⟩
    · cases h
theorem li_s_ok {nu : List Int} {th : List Li} {np : List Int} (k : li_T nu th np) {a b : Li} (h : li_s th a = some b) : ∃ x, li_e np a = some x ∧ li_e nu b = some x := by
  unfold li_s at h
  split at h
  · next b' hb =>
    cases h
    obtain ⟨y, y1, y2⟩ := li_st_ok k hb
    refine ⟨a.1 + y, li_e_mk y1, ?_⟩
    rw [Int.add_comm]
    exact li_e_sh a.1 y2
  · cases h
def bu_f (s : BS) (th : List Li) (f a : Li) : Option (List Li) := if f = li_n th.length then some (th ++ [a]) else match li_s th f with
  | some b => if bs_eq s b a then some th else none
  | none => none
theorem bu_f_ok {nu : List Int} {g : BG} {s : BS} (h : bs_ok nu g s) {th th' : List Li} {np : List Int} (k : li_T nu th np) {f a : Li} (hu : bu_f s th f a = some th') {x : Int} (hx : li_e nu a = some x) : ∃ nq, li_T nu th' nq ∧ nu_le np nq ∧ li_e nq f = some x := by
  unfold bu_f at hu
  split at hu
  · next e =>
    cases hu
    refine ⟨np ++ [x], k.push hx, nu_le.ap, ?_⟩
    rw [e, k.1]
    exact li_e_n (by rw [List.getElem?_append_right (Nat.le_refl _), Nat.sub_self]; rfl)
  · split at hu
    · next b hb =>
      split at hu
      · next c =>
        cases hu
        obtain ⟨y, y1, y2⟩ := li_s_ok k hb
        rw [bs_eq_ok h c y2 hx] at y1
        exact ⟨np, k, nu_le.rf, y1⟩
      · cases hu
    · cases hu
def bu_v (s : BS) (th : List Li) (p a : BV) : Option (List Li) := match p, a with
  | .inl p, .inl a => if p.1 = a.1 then bu_f s th p.2 a.2 else none
  | .inr (.inl p), .inr (.inl a) => if p.1 = a.1 then bu_f s th p.2 a.2 else none
  | .inr (.inr m), .inr (.inr n) => if m = n then some th else none
  | _, _ => none
theorem bu_v_ok {B : BE} {nu : List Int} {g : BG} {s : BS} (h : bs_ok nu g s) {th th' : List Li} {np : List Int} (k : li_T nu th np) {p a : BV} (hu : bu_v s th p a = some th') {v : Value} (hv : bv_V B nu a v) : ∃ nq, li_T nu th' nq ∧ nu_le np nq ∧ bv_V B nq p v := by
  unfold bu_v at hu
  split at hu
  · next p a =>
    split at hu
    · next e =>
      have hv : bv_N nu a v := hv
      unfold bv_N at hv
      split at hv
      · next c =>
        obtain ⟨x, rfl, hx⟩ := hv
        obtain ⟨nq, q1, q2, q3⟩ := bu_f_ok h k hu hx
        refine ⟨nq, q1, q2, ?_⟩
        show bv_N nq p _
        unfold bv_N
        rw [if_pos (e.trans c)]
        exact ⟨x, rfl, q3⟩
      · next c =>
        split at hv
        · next c2 =>
          obtain ⟨x, rfl, hx⟩ := hv
          obtain ⟨nq, q1, q2, q3⟩ := bu_f_ok h k hu hx
          refine ⟨nq, q1, q2, ?_⟩
          show bv_N nq p _
          unfold bv_N
          rw [if_neg (fun z => c (e.symm.trans z)), if_pos (e.trans c2)]
          exact ⟨x, rfl, q3⟩
        · next c2 =>
          obtain ⟨x, z, rfl, hx, hs⟩ := hv
          obtain ⟨nq, q1, q2, q3⟩ := bu_f_ok h k hu hx
          refine ⟨nq, q1, q2, ?_⟩
          show bv_N nq p _
          unfold bv_N
          rw [if_neg (fun z => c (e.symm.trans z)), if_neg (fun z => c2 (e.symm.trans z))]
          exact ⟨x, z, rfl, q3, hs⟩
    · cases hu
  · next p a =>
    split at hu
    · next e =>
      obtain ⟨P, rfl, h1, h2, h3⟩ := hv
      obtain ⟨nq, q1, q2, q3⟩ := bu_f_ok h k hu h1
      exact ⟨nq, q1, q2, P, rfl, q3, h2, h3.trans e.symm⟩
    · cases hu
  · split at hu
    · next e =>
      cases hu
      subst e
      exact ⟨np, k, nu_le.rf, hv⟩
    · cases hu
  · cases hu
def bu_S (s : BS) (th : List Li) : List BV → List BV → Option (List Li)
  | [], [] => some th
  | p :: ps, a :: as => match bu_v s th p a with
    | some th' => bu_S s th' ps as
    | none => none
  | _, _ => none
theorem bu_S_ok {B : BE} {nu : List Int} {g : BG} {s : BS} (h : bs_ok nu g s) : ∀ {ps as : List BV} {th th' : List Li} {np : List Int} {vs : List Value}, li_T nu th np → bu_S s th ps as = some th' → b_S B nu as vs → ∃ nq, li_T nu th' nq ∧ nu_le np nq ∧ b_S B nq ps vs
  | [], [], th, th', np, vs, k, hu, hv => by
    cases hu
    match vs, hv with
    | [], _ => exact ⟨np, k, nu_le.rf, trivial⟩
    | _ :: _, hv => exact hv.elim
  | [], _ :: _, th, th', np, vs, k, hu, hv => by cases hu
  | _ :: _, [], th, th', np, vs, k, hu, hv => by cases hu
  | p :: ps, a :: as, th, th', np, vs, k, hu, hv => by
    match vs, hv with
    | [], hv => exact hv.elim
    | v :: vs, hv =>
      have hu : (match bu_v s th p a with
        | some th' => bu_S s th' ps as
        | none => none) = some th' := hu
      split at hu
      · next t1 h1 =>
        obtain ⟨n1, q1, q2, q3⟩ := bu_v_ok h k h1 hv.1
        obtain ⟨n2, r1, r2, r3⟩ := bu_S_ok h q1 hu hv.2
        exact ⟨n2, r1, q2.tr r2, q3.mono r2, r3⟩
      · cases hu
/-- what is known to be a place of a kind -/
def b_rf : List BV → List (Nat × Li)
  | [] => []
  | .inr (.inl q) :: r => q :: b_rf r
  | _ :: r => b_rf r
def rf_ok (nu : List Int) (rf : List (Nat × Li)) : Prop := ∀ q, q ∈ rf → ∃ P : Nat, li_e nu q.2 = some (P : Int) ∧ P < 230 ∧ bk_at P = q.1
theorem rf_ok.mono {nu nv : List Int} (h : nu_le nu nv) {rf : List (Nat × Li)} (k : rf_ok nu rf) : rf_ok nv rf := fun q hq => by
  obtain ⟨P, h1, h2⟩ := k q hq
  exact ⟨P, li_e_mono h h1, h2⟩
theorem b_rf_ok {B : BE} {nu : List Int} : ∀ {as : List BV} {vs : List Value}, b_S B nu as vs → rf_ok nu (b_rf as)
  | [], _, _ => fun q hq => by cases hq
  | _ :: _, [], h => h.elim
  | .inl _ :: as, _ :: _, h => b_rf_ok (as := as) h.2
  | .inr (.inr _) :: as, _ :: _, h => b_rf_ok (as := as) h.2
  | .inr (.inl p) :: as, _ :: _, h => fun q hq => by
    rcases List.mem_cons.mp hq with rfl | hq
    · obtain ⟨P, -, h1, h2⟩ := h.1
      exact ⟨P, h1, h2⟩
    · exact b_rf_ok (as := as) h.2 q hq
def b_kn (s : BS) (rf : List (Nat × Li)) (k : Nat) (p : Li) : Bool := (decide (p.2 = []) && (decide (0 ≤ p.1) && (decide (p.1 < 230) && decide (bk_at p.1.toNat = k)))) || (decide ((k, p) ∈ rf) || s.2.2.any (fun e => decide (e.1 = k) && decide (e.2.1 = p)))
theorem b_kn_ok {nu : List Int} {g : BG} {s : BS} (h : bs_ok nu g s) {rf : List (Nat × Li)} (hr : rf_ok nu rf) {k : Nat} (hk : k < 1000) {p : Li} (c : b_kn s rf k p = true) : ∃ P : Nat, li_e nu p = some (P : Int) ∧ P < 230 ∧ bk_at P = k := by
  unfold b_kn at c
  rw [Bool.or_eq_true, Bool.or_eq_true] at c
  rcases c with c | c | c
  · simp only [Bool.and_eq_true, decide_eq_true_eq] at c
    obtain ⟨c1, c2, c3, c4⟩ := c
    obtain ⟨p1, p2⟩ := p
    have c1 : p2 = [] := c1
    subst c1
    have c2 : 0 ≤ p1 := c2
    have c3 : p1 < 230 := c3
    refine ⟨p1.toNat, ?_, by omega, c4⟩
    rw [show ((p1.toNat : Nat) : Int) = p1 by omega]
    exact li_e_c nu p1
  · exact hr _ (of_decide_eq_true c)
  · obtain ⟨e, he, c⟩ := List.any_eq_true.mp c
    rw [Bool.and_eq_true, decide_eq_true_eq, decide_eq_true_eq] at c
    have hm := h.2.2 e he
    unfold bc_e at hm
    rw [c.1, if_pos hk, c.2] at hm
    obtain ⟨P, X, m1, m2, m3, m4, -⟩ := hm
    exact ⟨P, m1, m3, m4⟩
/-- the index of a field or place, and its bounds -/
def b_ix (s : BS) (k : Nat) (x : Li) : Option (Nat × Int × Int) := match bk_tab[k]? with
  | some (.inl q) => if x.2 = [] ∧ 0 ≤ x.1 then (match q.2[x.1.toNat]? with
    | some (.inl f) => some f
    | _ => none) else none
  | some (.inr q) => if b_in s q.2.1 x then (match q.2.2 with
    | .inl f => some f
    | .inr _ => none) else none
  | none => none
theorem b_ix_ok {nu : List Int} {g : BG} {s : BS} (h : bs_ok nu g s) {k : Nat} {x : Li} {f : Nat × Int × Int} (c : b_ix s k x = some f) {z : Int} (hx : li_e nu x = some z) : ∃ X : Nat, li_e nu x = some (X : Int) ∧ bk_spec k X = some (.inl f) := by
  unfold b_ix at c
  split at c
  · next q hq =>
    split at c
    · next hc =>
      split at c
      · next f' hf =>
        cases c
        obtain ⟨x1, x2⟩ := x
        obtain ⟨c1, c2⟩ := hc
        have c1 : x2 = [] := c1
        subst c1
        have c2 : 0 ≤ x1 := c2
        refine ⟨x1.toNat, ?_, ?_⟩
        · rw [show ((x1.toNat : Nat) : Int) = x1 by omega]
          exact li_e_c nu x1
        · rw [bk_sO hq]; exact hf
      · cases c
    · cases c
  · next q hq =>
    split at c
    · next hc =>
      split at c
      · next f' hf =>
        cases c
        unfold b_in at hc
        rw [Bool.and_eq_true] at hc
        have h1 := bs_ge_ok h hc.1 hx
        have h2 := bs_ge_ok h hc.2 (li_e_sub (li_e_c nu _) hx)
        refine ⟨z.toNat, by rw [show ((z.toNat : Nat) : Int) = z by omega]; exact hx, ?_⟩
        obtain ⟨q1, q2, q3⟩ := q
        have hf : q3 = .inl f := hf
        subst hf
        have h2 : 0 ≤ (q2 : Int) - 1 - z := h2
        exact bk_sA hq (by omega)
      · cases c
    · cases c
  · cases c
def bq_B (k : Nat) : Int × Int := if k = 1003 then (0, 255) else if k = 1004 ∨ k = 1005 then (0, 1) else (-9223372036854775808, 9223372036854775807)
theorem bq_B_ok (k : Nat) (a b : Int) : (bq_B k).1 ≤ bq_F k a b ∧ bq_F k a b ≤ (bq_B k).2 := by
  have big : ∀ z : Int64, -9223372036854775808 ≤ z.toInt ∧ z.toInt ≤ 9223372036854775807 := fun z => by have := fb_rngL z; omega
  unfold bq_B bq_F
  by_cases h3 : k = 1003
  · subst h3
    simp only [if_true]
    rw [if_neg (by decide), if_neg (by decide), if_neg (by decide)]
    exact bq_b_rng a b
  · rw [if_neg h3]
    by_cases h4 : k = 1004
    · subst h4
      rw [if_pos (Or.inl rfl), if_neg (by decide), if_neg (by decide), if_neg (by decide), if_neg (by decide), if_pos rfl]
      split <;> (show (0 : Int) ≤ _ ∧ _ ≤ (1 : Int); omega)
    · by_cases h5 : k = 1005
      · subst h5
        rw [if_pos (Or.inr rfl), if_neg (by decide), if_neg (by decide), if_neg (by decide), if_neg (by decide), if_neg (by decide), if_pos rfl]
        split <;> (show (0 : Int) ≤ _ ∧ _ ≤ (1 : Int); omega)
      · rw [if_neg (by omega)]
        split
        · exact big _
        · split
          · exact big _
          · split
            · exact big _
            · split
              · exact big _
              · split
                · exact big _
                · split
                  · have := fb_rng (Int64.ofInt a).toInt32
                    show (-9223372036854775808 : Int) ≤ _ ∧ _ ≤ (9223372036854775807 : Int)
                    omega
                  · show (-9223372036854775808 : Int) ≤ 0 ∧ (0 : Int) ≤ 9223372036854775807
                    omega
/-! the signs of a text: whether all of the first x bytes of a long are -/
def sg_y (q : Int × Int) : Bool := (decide (97 ≤ q.1) && decide (q.2 ≤ 122)) || ((decide (46 ≤ q.1) && decide (q.2 ≤ 47)) || (decide (32 ≤ q.1) && decide (q.2 ≤ 32)))
def sg_n (q : Int × Int) : Bool := decide (q.2 ≤ 31) || ((decide (33 ≤ q.1) && decide (q.2 ≤ 45)) || ((decide (48 ≤ q.1) && decide (q.2 ≤ 96)) || decide (123 ≤ q.1)))
theorem sg_y_ok {q : Int × Int} (h : sg_y q = true) {z : Int} (h1 : q.1 ≤ z) (h2 : z ≤ q.2) : bq_g z = true := by
  unfold sg_y at h
  unfold bq_g
  simp only [Bool.or_eq_true, Bool.and_eq_true, decide_eq_true_eq] at h ⊢
  omega
theorem sg_n_ok {q : Int × Int} (h : sg_n q = true) {z : Int} (h1 : q.1 ≤ z) (h2 : z ≤ q.2) : bq_g z = false := by
  unfold sg_n at h
  simp only [Bool.or_eq_true, Bool.and_eq_true, decide_eq_true_eq] at h
  rw [← Bool.not_eq_true]
  unfold bq_g
  simp only [Bool.or_eq_true, Bool.and_eq_true, decide_eq_true_eq]
  omega
theorem bq_all_f {w : Int} {j : Nat} (hj : bq_g (bq_b w (8 * (j : Int))) = false) : ∀ n, j < n → bq_all w n = false
  | 0, h => by omega
  | n + 1, h => by
    show (bq_all w n && bq_g (bq_b w (8 * (n : Int)))) = false
    by_cases e : j = n
    · subst e
      rw [hj, Bool.and_false]
    · rw [bq_all_f hj n (by omega), Bool.false_and]
def bs_8 (s : BS) (p x : Li) (f : Int × Int → Bool) : Bool := s.2.2.any (fun q => decide (q.1 = 1003 ∧ q.2.1 = p ∧ q.2.2.1 = li_mul 8 x) && f (li_v s.1 q.2.2.2))
theorem bs_8_ok {nu : List Int} {g : BG} {s : BS} (h : bs_ok nu g s) {p x : Li} {f : Int × Int → Bool} (c : bs_8 s p x f = true) {zp zx : Int} (hp : li_e nu p = some zp) (hx : li_e nu x = some zx) : ∃ q : Int × Int, f q = true ∧ q.1 ≤ bq_b zp (8 * zx) ∧ bq_b zp (8 * zx) ≤ q.2 := by
  unfold bs_8 at c
  obtain ⟨q, q1, q2⟩ := List.any_eq_true.mp c
  rw [Bool.and_eq_true, decide_eq_true_eq] at q2
  obtain ⟨⟨c1, c2, c3⟩, c4⟩ := q2
  have m := h.2.2 q q1
  unfold bc_e at m
  rw [c1, if_neg (by decide), c2, c3] at m
  obtain ⟨a, b, m1, m2, m3⟩ := m
  rw [hp] at m1
  cases m1
  rw [li_e_mul 8 hx] at m2
  cases m2
  rw [bq_G_F (by decide), bq_F3] at m3
  have v := li_v_ok h.1 m3
  exact ⟨_, c4, v.1, v.2⟩
def bs_5 (s : BS) (p x : Li) : Option Li := if li_k s x = some 0 then some (li_c 1) else match s.2.2.find? (fun e => decide (e.1 = 1005 ∧ e.2.1 = p) && bs_eq s e.2.2.1 x) with
  | some e => some e.2.2.2
  | none => if s.2.2.any (fun e => decide (e.1 = 1005 ∧ e.2.1 = p ∧ li_k s e.2.2.2 = some 1) && (bs_eq s (li_sh 1 e.2.2.1) x && (bs_ge s e.2.2.1 && bs_8 s p e.2.2.1 sg_y))) then some (li_c 1)
    else if s.2.2.any (fun e => decide (e.1 = 1005 ∧ e.2.1 = p) && (bs_ge s e.2.2.1 && (bs_ge s (li_sh (-1) (li_sub x e.2.2.1)) && bs_8 s p e.2.2.1 sg_n))) then some (li_c 0) else none
theorem bs_5_ok {nu : List Int} {g : BG} {s : BS} (h : bs_ok nu g s) {p x v : Li} (c : bs_5 s p x = some v) {zp zx : Int} (hp : li_e nu p = some zp) (hx : li_e nu x = some zx) : li_e nu v = some (bq_F 1005 zp zx) := by
  have e5 : ∀ a b, bq_F 1005 a b = if bq_all a b.toNat then 1 else 0 := bq_F5
  have get : ∀ e, e ∈ s.2.2 → e.1 = 1005 → e.2.1 = p → ∃ b, li_e nu e.2.2.1 = some b ∧ li_e nu e.2.2.2 = some (bq_F 1005 zp b) := by
    intro e he c1 c2
    have m := h.2.2 e he
    unfold bc_e at m
    rw [c1, if_neg (by decide), c2] at m
    obtain ⟨a, b, m1, m2, m3⟩ := m
    rw [hp] at m1
    cases m1
    rw [bq_G_F (by decide)] at m3
    exact ⟨b, m2, m3⟩
  unfold bs_5 at c
  split at c
  · next hk =>
    cases c
    have := li_k_ok h hk hx
    subst this
    rw [e5]
    exact li_e_c nu 1
  split at c
  · next e he =>
    cases c
    have h0 := List.find?_some he
    rw [Bool.and_eq_true, decide_eq_true_eq] at h0
    obtain ⟨b, b1, b2⟩ := get e (List.mem_of_find?_eq_some he) h0.1.1 h0.1.2
    have := bs_eq_ok h h0.2 b1 hx
    subst this
    exact b2
  split at c
  · next ha =>
    cases c
    obtain ⟨e, he, h0⟩ := List.any_eq_true.mp ha
    rw [Bool.and_eq_true, Bool.and_eq_true, Bool.and_eq_true, decide_eq_true_eq] at h0
    obtain ⟨⟨c1, c2, c3⟩, c4, c5, c6⟩ := h0
    obtain ⟨b, b1, b2⟩ := get e he c1 c2
    have b0 := bs_ge_ok h c5 b1
    have b3 := li_k_ok h c3 b2
    obtain ⟨q, q1, q2, q3⟩ := bs_8_ok h c6 hp b1
    have hg := sg_y_ok q1 q2 q3
    have hz := bs_eq_ok h c4 (li_e_sh 1 b1) hx
    obtain ⟨n, rfl⟩ := Int.eq_ofNat_of_zero_le b0
    rw [e5] at b3
    have hall : bq_all zp n = true := by
      split at b3
      · next k => exact k
      · omega
    rw [e5, show zx.toNat = n + 1 by omega]
    have : bq_all zp (n + 1) = true := by
      show (bq_all zp n && bq_g (bq_b zp (8 * (n : Int)))) = true
      rw [hall, hg]
      rfl
    rw [if_pos this]
    exact li_e_c nu 1
  split at c
  · next ha =>
    cases c
    obtain ⟨e, he, h0⟩ := List.any_eq_true.mp ha
    rw [Bool.and_eq_true, Bool.and_eq_true, Bool.and_eq_true, decide_eq_true_eq] at h0
    obtain ⟨⟨c1, c2⟩, c5, c7, c6⟩ := h0
    obtain ⟨b, b1, b2⟩ := get e he c1 c2
    have b0 := bs_ge_ok h c5 b1
    have b4 := bs_ge_ok h c7 (li_e_sh (-1) (li_e_sub hx b1))
    obtain ⟨q, q1, q2, q3⟩ := bs_8_ok h c6 hp b1
    have hg := sg_n_ok q1 q2 q3
    obtain ⟨n, rfl⟩ := Int.eq_ofNat_of_zero_le b0
    have := bq_all_f (w := zp) (j := n) hg zx.toNat (by omega)
    rw [e5, if_neg (by rw [this]; decide)]
    exact li_e_c nu 0
  · cases c
/-- what is at a place now: known, or a new name -/
def bu_1 (s : BS) (rf : List (Nat × Li)) (k : Nat) (p x : Li) : Option (BS × Li) := match s.2.2.find? (fun e => decide (e.1 = k ∧ e.2.1 = p ∧ e.2.2.1 = x)) with
  | some e => some (s, e.2.2.2)
  | none => match (if k < 1000 then s.2.2.find? (fun e => decide (e.1 = k) && (bs_eq s e.2.1 p && bs_eq s e.2.2.1 x)) else none) with
  | some e => some (s, e.2.2.2)
  | none => if k < 1000 then (match b_ix s k x with
    | some f => if b_kn s rf k p then some (bs_q s k p x f.2.1 f.2.2) else none
    | none => none) else if k = 1010 then none else match (if k = 1005 then bs_5 s p x else none) with
    | some v => some (s, v)
    | none => some (bs_q s k p x (bq_B k).1 (bq_B k).2)
def bc_at (nu : List Int) (g : BG) (k : Nat) (p x : Li) (y : Int) : Prop := if k < 1000 then ∃ (P X : Nat), li_e nu p = some (P : Int) ∧ li_e nu x = some (X : Int) ∧ P < 230 ∧ bk_at P = k ∧ y = g P X else ∃ a b : Int, li_e nu p = some a ∧ li_e nu x = some b ∧ y = bq_G g k a b
theorem bu_1_ok {nu : List Int} {g : BG} {s : BS} (h : bs_ok nu g s) (hg : bw_ok g) {rf : List (Nat × Li)} (hr : rf_ok nu rf) {k : Nat} {p x : Li} {r : BS × Li} (c : bu_1 s rf k p x = some r) {zp zx : Int} (hp : li_e nu p = some zp) (hx : li_e nu x = some zx) : ∃ (nv : List Int) (y : Int), nu_le nu nv ∧ bs_ok nv g r.1 ∧ li_e nv r.2 = some y ∧ bc_at nv g k p x y := by
  unfold bu_1 at c
  split at c
  · next e he =>
    cases c
    have hc0 := List.find?_some he
    have hc : e.1 = k ∧ e.2.1 = p ∧ e.2.2.1 = x := of_decide_eq_true hc0
    obtain ⟨c1, c2, c3⟩ := hc
    have hm := h.2.2 e (List.mem_of_find?_eq_some he)
    unfold bc_e at hm
    unfold bc_at
    rw [c1, c2, c3] at hm
    split
    · next hk =>
      rw [if_pos hk] at hm
      obtain ⟨P, X, m1, m2, m3, m4, m5⟩ := hm
      exact ⟨nu, _, nu_le.rf, h, m5, P, X, m1, m2, m3, m4, rfl⟩
    · next hk =>
      rw [if_neg hk] at hm
      obtain ⟨a, b, m1, m2, m3⟩ := hm
      exact ⟨nu, _, nu_le.rf, h, m3, a, b, m1, m2, rfl⟩
  · split at c
    · next e he =>
      cases c
      split at he
      · next hk =>
        have hc0 := List.find?_some he
        rw [Bool.and_eq_true, Bool.and_eq_true, decide_eq_true_eq] at hc0
        obtain ⟨c1, c2, c3⟩ := hc0
        have hm := h.2.2 e (List.mem_of_find?_eq_some he)
        unfold bc_e at hm
        rw [c1, if_pos hk] at hm
        obtain ⟨P, X, m1, m2, m3, m4, m5⟩ := hm
        have e1 := bs_eq_ok h c2 m1 hp
        have e2 := bs_eq_ok h c3 m2 hx
        refine ⟨nu, _, nu_le.rf, h, m5, ?_⟩
        unfold bc_at
        rw [if_pos hk]
        exact ⟨P, X, by rw [e1]; exact hp, by rw [e2]; exact hx, m3, m4, rfl⟩
      · cases he
    split at c
    · next hk =>
      split at c
      · next f hf =>
        split at c
        · next hkn =>
          cases c
          obtain ⟨P, p1, p2, p3⟩ := b_kn_ok h hr hk hkn
          obtain ⟨X, x1, x2⟩ := b_ix_ok h hf hx
          obtain ⟨nv, n1, n2, n3⟩ := bs_rd h hg p2 p3 p1 x1 x2
          refine ⟨nv, g P X, n1, n2, n3, ?_⟩
          unfold bc_at
          rw [if_pos hk]
          exact ⟨P, X, li_e_mono n1 p1, li_e_mono n1 x1, p2, p3, rfl⟩
        · cases c
      · cases c
    · next hk =>
      split at c
      · cases c
      next hn =>
      split at c
      · next v hv =>
        cases c
        split at hv
        · next h5 =>
          subst h5
          refine ⟨nu, _, nu_le.rf, h, bs_5_ok h hv hp hx, ?_⟩
          unfold bc_at
          rw [if_neg hk]
          exact ⟨zp, zx, hp, hx, (bq_G_F hn _ _).symm⟩
        · cases hv
      cases c
      obtain ⟨nv, n1, n2, n3⟩ := bs_q_R h hk hn hp hx (bq_B_ok k zp zx).1 (bq_B_ok k zp zx).2
      refine ⟨nv, _, n1, n2, n3, ?_⟩
      unfold bc_at
      rw [if_neg hk]
      exact ⟨zp, zx, li_e_mono n1 hp, li_e_mono n1 hx, (bq_G_F hn _ _).symm⟩
def bu_C (rf : List (Nat × Li)) : BS → List Li → BCA → Option (List Li × BS)
  | s, th, [] => some (th, s)
  | s, th, e :: ca => match li_s th e.2.1 with
    | none => none
    | some p => if e.1 < 1000 ∧ e.2.2.1 = li_n th.length then (match s.2.2.find? (fun q => decide (q.1 = e.1 ∧ q.2.1 = p)) with
      | some q => (match bu_f s (th ++ [q.2.2.1]) e.2.2.2 q.2.2.2 with
        | some th' => bu_C rf s th' ca
        | none => none)
      | none => none) else match li_s th e.2.2.1 with
      | some x => (match bu_1 s rf e.1 p x with
        | some r => (match bu_f r.1 th e.2.2.2 r.2 with
          | some th' => bu_C rf r.1 th' ca
          | none => none)
        | none => none)
      | none => none
theorem bc_at_e {nu np : List Int} {g : BG} {k : Nat} {p x p' x' v : Li} {y zp zx : Int} (h : bc_at nu g k p' x' y) (hp : li_e np p = some zp) (hp' : li_e nu p' = some zp) (hx : li_e np x = some zx) (hx' : li_e nu x' = some zx) (hv : li_e np v = some y) : bc_e np g (k, p, x, v) := by
  unfold bc_at at h
  unfold bc_e
  split
  · next hk =>
    have hk : k < 1000 := hk
    rw [if_pos hk] at h
    obtain ⟨P, X, h1, h2, h3, h4, rfl⟩ := h
    rw [hp'] at h1
    rw [hx'] at h2
    cases h1
    cases h2
    exact ⟨P, X, hp, hx, h3, h4, hv⟩
  · next hk =>
    have hk : ¬ k < 1000 := hk
    rw [if_neg hk] at h
    obtain ⟨a, b, h1, h2, rfl⟩ := h
    rw [hp'] at h1
    rw [hx'] at h2
    cases h1
    cases h2
    exact ⟨zp, zx, hp, hx, hv⟩
theorem bu_C_ok {g : BG} (hg : bw_ok g) {rf : List (Nat × Li)} : ∀ {ca : BCA} {nu : List Int} {s : BS} {th : List Li} {np : List Int} {r : List Li × BS}, bs_ok nu g s → rf_ok nu rf → li_T nu th np → bu_C rf s th ca = some r → ∃ nv nq, nu_le nu nv ∧ bs_ok nv g r.2 ∧ li_T nv r.1 nq ∧ nu_le np nq ∧ bc_ok nq g ca
  | [], nu, s, th, np, r, h, hr, k, c => by
    cases c
    exact ⟨nu, np, nu_le.rf, h, k, nu_le.rf, fun e he => by cases he⟩
  | e :: ca, nu, s, th, np, r, h, hr, k, c => by
    unfold bu_C at c
    split at c
    · cases c
    next p h1 =>
    obtain ⟨zp, a1, a2⟩ := li_s_ok k h1
    split at c
    · next hnew =>
      split at c
      · next q hq =>
        have hc0 := List.find?_some hq
        have hc1 : q.1 = e.1 ∧ q.2.1 = p := of_decide_eq_true hc0
        have hm := h.2.2 q (List.mem_of_find?_eq_some hq)
        unfold bc_e at hm
        rw [hc1.1, if_pos hnew.1, hc1.2] at hm
        obtain ⟨P, X, m1, m2, m3, m4, m5⟩ := hm
        split at c
        · next th' ht =>
          obtain ⟨nq, q1, q2, q3⟩ := bu_f_ok h (k.push m2) ht m5
          obtain ⟨nw, nr, r1', r2, r3, r4, r5⟩ := bu_C_ok hg h hr q1 c
          have hpx : li_e (np ++ [(X : Int)]) e.2.2.1 = some (X : Int) := by
            rw [hnew.2, k.1]
            exact li_e_n (by rw [List.getElem?_append_right (Nat.le_refl _), Nat.sub_self]; rfl)
          refine ⟨nw, nr, r1', r2, r3, (nu_le.ap.tr q2).tr r4, fun e' he' => ?_⟩
          rcases List.mem_cons.mp he' with rfl | he'
          · unfold bc_e
            rw [if_pos hnew.1]
            rw [a2] at m1
            cases m1
            exact ⟨P, X, li_e_mono ((nu_le.ap.tr q2).tr r4) a1, li_e_mono (q2.tr r4) hpx, m3, m4, li_e_mono r4 q3⟩
          · exact r5 e' he'
        · cases c
      · cases c
    · split at c
      · next x h2 =>
        obtain ⟨zx, b1, b2⟩ := li_s_ok k h2
        split at c
        · next r1 hr1 =>
          obtain ⟨nv, y, n1, n2, n3, n4⟩ := bu_1_ok h hg hr hr1 a2 b2
          split at c
          · next th' ht =>
            obtain ⟨nq, q1, q2, q3⟩ := bu_f_ok n2 (k.mono n1) ht n3
            obtain ⟨nw, nr, r1', r2, r3, r4, r5⟩ := bu_C_ok hg n2 (hr.mono n1) q1 c
            refine ⟨nw, nr, n1.tr r1', r2, r3, q2.tr r4, fun e' he' => ?_⟩
            rcases List.mem_cons.mp he' with rfl | he'
            · exact (bc_at_e n4 (li_e_mono q2 a1) (li_e_mono n1 a2) (li_e_mono q2 b1) (li_e_mono n1 b2) q3).mono r4
            · exact r5 e' he'
          · cases c
        · cases c
      · cases c
def bu_be (s : BS) : LB → List Li → Bool
  | [], [] => true
  | q :: be, a :: th => bs_fit s q.1 q.2 a && bu_be s be th
  | _, _ => false
theorem bu_be_get {s : BS} : ∀ {be : LB} {th : List Li}, bu_be s be th = true → be.length = th.length ∧ ∀ (i : Nat) (a : Li), th[i]? = some a → ∃ q, be[i]? = some q ∧ bs_fit s q.1 q.2 a = true
  | [], [], _ => ⟨rfl, fun i a h => by cases h⟩
  | [], _ :: _, h => by cases h
  | _ :: _, [], h => by cases h
  | q :: be, a :: th, h => by
    have h : (bs_fit s q.1 q.2 a && bu_be s be th) = true := h
    rw [Bool.and_eq_true] at h
    obtain ⟨g1, g2⟩ := bu_be_get h.2
    refine ⟨by rw [List.length_cons, List.length_cons, g1], fun i b hb => ?_⟩
    match i, hb with
    | 0, hb => cases hb; exact ⟨q, rfl, h.1⟩
    | i + 1, hb => exact g2 i b hb
theorem bu_be_ok {nu : List Int} {g : BG} {s : BS} (h : bs_ok nu g s) {be : LB} {th : List Li} {np : List Int} (k : li_T nu th np) (c : bu_be s be th = true) : lb_ok np be := by
  obtain ⟨g1, g2⟩ := bu_be_get c
  refine ⟨g1.trans k.1, fun n x hx => ?_⟩
  have hn : n < th.length := by rw [k.1]; exact (List.getElem?_eq_some_iff.mp hx).1
  obtain ⟨q, q1, q2⟩ := g2 n _ (List.getElem?_eq_getElem hn)
  obtain ⟨y, y1, y2⟩ := k.2 n _ (List.getElem?_eq_getElem hn)
  rw [hx] at y1
  cases y1
  exact ⟨q, q1, bs_fit_ok h q2 y2⟩
def bu_fs (s : BS) (th : List Li) (fs : List Li) : Bool := fs.all (fun f => match li_s th f with
  | some b => bs_ge s b
  | none => false)
theorem bu_fs_ok {nu : List Int} {g : BG} {s : BS} (h : bs_ok nu g s) {fs : List Li} {th : List Li} {np : List Int} (k : li_T nu th np) (c : bu_fs s th fs = true) : lf_ok np fs := fun f hf => by
  have c := List.all_eq_true.mp c f hf
  split at c
  · next b hb =>
    obtain ⟨x, x1, x2⟩ := li_s_ok k hb
    exact ⟨x, x1, bs_ge_ok h c x2⟩
  · cases c
/-- a pattern (values, state) met by values in a state -/
def bu_all (s : BS) (th : List Li) (ps as : List BV) (rf : List (Nat × Li)) (pt : BS) : Option (List Li × BS) := match bu_S s th ps as with
  | some th1 => match bu_C rf s th1 pt.2.2 with
    | some r => if bu_be r.2 pt.1 r.1 && bu_fs r.2 r.1 pt.2.1 then some r else none
    | none => none
  | none => none
theorem bu_all_ok {B : BE} {nu : List Int} {g : BG} {s : BS} (h : bs_ok nu g s) (hg : bw_ok g) {th : List Li} {np : List Int} (k : li_T nu th np) {ps as : List BV} {rf : List (Nat × Li)} (hr : rf_ok nu rf) {pt : BS} {r : List Li × BS} (c : bu_all s th ps as rf pt = some r) {vs : List Value} (hv : b_S B nu as vs) :
    ∃ nv nq, nu_le nu nv ∧ bs_ok nv g r.2 ∧ li_T nv r.1 nq ∧ nu_le np nq ∧ b_S B nq ps vs ∧ bs_ok nq g pt := by
  unfold bu_all at c
  split at c
  · next th1 h1 =>
    obtain ⟨n1, a1, a2, a3⟩ := bu_S_ok h k h1 hv
    split at c
    · next r1 hr1 =>
      obtain ⟨nv, nq, b1, b2, b3, b4, b5⟩ := bu_C_ok hg h hr a1 hr1
      split at c
      · next hc =>
        cases c
        rw [Bool.and_eq_true] at hc
        exact ⟨nv, nq, b1, b2, b3, a2.tr b4, a3.mono b4, bu_be_ok b2 b3 hc.1, bu_fs_ok b2 b3 hc.2, b5⟩
      · cases c
    · cases c
  · cases c
def li_ids (n : Nat) : List Li := (List.range n).map li_n
theorem li_ids_ok {nu n0 : List Int} (h : nu_le n0 nu) : li_T nu (li_ids n0.length) n0 := by
  refine ⟨by unfold li_ids; rw [List.length_map, List.length_range], fun i a ha => ?_⟩
  unfold li_ids at ha
  rw [List.getElem?_map] at ha
  by_cases hi : i < n0.length
  · rw [List.getElem?_range hi] at ha
    cases ha
    exact ⟨n0[i], List.getElem?_eq_getElem hi, li_e_n (h i _ (List.getElem?_eq_getElem hi))⟩
  · rw [List.getElem?_eq_none (by rw [List.length_range]; omega)] at ha
    cases ha
/-- locals of a loop's head -/
def b_pick (lo : BLo) : List (Nat × BV) → Option (List BV)
  | [] => some []
  | q :: r => match lo.find? (fun x => x.1 == q.1), b_pick lo r with
    | some x, some as => some (x.2 :: as)
    | _, _ => none
theorem b_pick_ok {B : BE} {nu : List Int} {lo : BLo} {lv : List (Nat × Value)} (hL : b_L B nu lo lv) : ∀ {ps : List (Nat × BV)} {as : List BV}, b_pick lo ps = some as → ∃ lw : List (Nat × Value), (∀ q ∈ lw, q ∈ lv) ∧ lw.map Prod.fst = ps.map Prod.fst ∧ b_S B nu as (lw.map Prod.snd)
  | [], as, h => by cases h; exact ⟨[], (fun q hq => by cases hq), rfl, trivial⟩
  | q :: r, as, h => by
    have h : (match lo.find? (fun x => x.1 == q.1), b_pick lo r with
      | some x, some as => some (x.2 :: as)
      | _, _ => none) = some as := h
    split at h
    · next x as' h1 h2 =>
      cases h
      obtain ⟨k, v, k1, k2⟩ := b_find q.1 hL h1
      obtain ⟨lw, w1, w2, w3⟩ := b_pick_ok hL h2
      refine ⟨(q.1, v) :: lw, fun z hz => ?_, by rw [List.map_cons, List.map_cons, w2], k2, w3⟩
      rcases List.mem_cons.mp hz with rfl | hz
      · exact List.mem_of_getElem? k1
      · exact w1 z hz
    · cases h
theorem b_S_L {B : BE} {nu : List Int} : ∀ {ps : List (Nat × BV)} {lw : List (Nat × Value)}, lw.map Prod.fst = ps.map Prod.fst → b_S B nu (ps.map Prod.snd) (lw.map Prod.snd) → b_L B nu ps lw
  | [], [], _, _ => trivial
  | [], _ :: _, h, _ => by cases h
  | _ :: _, [], h, _ => by cases h
  | p :: ps, w :: lw, h, k => by
    rw [List.map_cons, List.map_cons] at h
    obtain ⟨h1, h2⟩ := List.cons.inj h
    exact ⟨⟨h1.symm, k.1⟩, b_S_L h2 k.2⟩
/-! outcomes -/
def b_cd (e : Nat × Li × Li × Li) : Option Nat := match bk_tab[e.1]? with
  | some (.inl _) => if e.2.2.1.2 = [] ∧ 0 ≤ e.2.2.1.1 then some (e.1 * 64 + e.2.2.1.1.toNat) else none
  | some (.inr _) => some (e.1 * 64)
  | none => none
def b_kp (md : List Nat) (e : Nat × Li × Li × Li) : Bool := decide (1000 ≤ e.1) || (match b_cd e with
  | some c => decide (c ∉ md)
  | none => false)
theorem b_kp_ok {md : List Nat} {g g' : BG} (hs : bg_same md g g') {nu : List Int} {ca : BCA} (h : bc_ok nu g ca) : bc_ok nu g' (ca.filter (b_kp md)) := fun e he => by
  obtain ⟨h1, h2⟩ := List.mem_filter.mp he
  have hm := h e h1
  unfold bc_e at hm ⊢
  split
  · next hk =>
    rw [if_pos hk] at hm
    obtain ⟨P, X, m1, m2, m3, m4, m5⟩ := hm
    refine ⟨P, X, m1, m2, m3, m4, ?_⟩
    rw [hs P X (fun _ => ?_)]
    · exact m5
    unfold b_kp at h2
    rw [Bool.or_eq_true, decide_eq_true_eq] at h2
    rcases h2 with h2 | h2
    · omega
    split at h2
    · next c hc =>
      have h2 : c ∉ md := of_decide_eq_true h2
      unfold b_cd at hc
      unfold bk_code
      rw [m4]
      split at hc
      · next q hq =>
        rw [hq]
        split at hc
        · next hx =>
          cases hc
          obtain ⟨e1, e2, ⟨x1, x2⟩, e4⟩ := e
          obtain ⟨y1, y2⟩ := hx
          have y1 : x2 = [] := y1
          subst y1
          have y2 : 0 ≤ x1 := y2
          have m2 : li_e nu (li_c x1) = some (X : Int) := m2
          rw [li_e_c] at m2
          have m2 := Option.some.inj m2
          show e1 * 64 + X ∉ md
          rw [show X = x1.toNat by omega]
          exact h2
        · cases hc
      · next q hq =>
        rw [hq]
        cases hc
        exact h2
      · cases hc
    · cases h2
  · next hk =>
    rw [if_neg hk] at hm
    obtain ⟨a, b, m1, m2, m3⟩ := hm
    exact ⟨a, b, m1, m2, by rw [bq_G_eq (hs.out (by omega))]; exact m3⟩
def bu_sv (th : List Li) (v : BV) : Option BV := match v with
  | .inl q => match li_s th q.2 with
    | some b => some (.inl (q.1, b))
    | none => none
  | .inr (.inl q) => match li_s th q.2 with
    | some b => some (.inr (.inl (q.1, b)))
    | none => none
  | .inr (.inr n) => some (.inr (.inr n))
theorem bu_sv_ok {B : BE} {nu : List Int} {th : List Li} {np : List Int} (k : li_T nu th np) {a b : BV} (h : bu_sv th a = some b) {v : Value} (hv : bv_V B np a v) : bv_V B nu b v := by
  unfold bu_sv at h
  split at h
  · next q =>
    split at h
    · next f hf =>
      cases h
      obtain ⟨x, x1, x2⟩ := li_s_ok k hf
      have hv : bv_N np q v := hv
      show bv_N nu (q.1, f) v
      unfold bv_N at hv ⊢
      dsimp only
      split
      · next c =>
        rw [if_pos c] at hv
        obtain ⟨y, y1, y2⟩ := hv
        rw [x1] at y2
        cases y2
        exact ⟨y, y1, x2⟩
      · next c =>
        rw [if_neg c] at hv
        split
        · next c2 =>
          rw [if_pos c2] at hv
          obtain ⟨y, y1, y2⟩ := hv
          rw [x1] at y2
          cases y2
          exact ⟨y, y1, x2⟩
        · next c2 =>
          rw [if_neg c2] at hv
          obtain ⟨y, z, y1, y2, y3⟩ := hv
          rw [x1] at y2
          cases y2
          exact ⟨y, x, y1, x2, y3⟩
    · cases h
  · next q =>
    split at h
    · next f hf =>
      cases h
      obtain ⟨x, x1, x2⟩ := li_s_ok k hf
      obtain ⟨P, h1, h2, h3, h4⟩ := hv
      rw [x1] at h2
      cases h2
      exact ⟨P, h1, x2, h3, h4⟩
    · cases h
  · cases h
    exact hv
def bu_sc (th : List Li) : BCA → Option BCA
  | [] => some []
  | e :: ca => match li_s th e.2.1, li_s th e.2.2.1, li_s th e.2.2.2, bu_sc th ca with
    | some p, some x, some v, some r => some ((e.1, p, x, v) :: r)
    | _, _, _, _ => none
theorem bu_sc_ok {nu : List Int} {g : BG} {th : List Li} {np : List Int} (k : li_T nu th np) : ∀ {ca cb : BCA}, bu_sc th ca = some cb → bc_ok np g ca → bc_ok nu g cb
  | [], cb, h, _ => by cases h; exact fun e he => by cases he
  | e :: ca, cb, h, hc => by
    have h : (match li_s th e.2.1, li_s th e.2.2.1, li_s th e.2.2.2, bu_sc th ca with
      | some p, some x, some v, some r => some ((e.1, p, x, v) :: r)
      | _, _, _, _ => none) = some cb := h
    split at h
    · next p x v r h1 h2 h3 h4 =>
      cases h
      obtain ⟨zp, p1, p2⟩ := li_s_ok k h1
      obtain ⟨zx, x1, x2⟩ := li_s_ok k h2
      obtain ⟨zv, v1, v2⟩ := li_s_ok k h3
      intro e' he'
      rcases List.mem_cons.mp he' with rfl | he'
      · have hm := hc e List.mem_cons_self
        unfold bc_e at hm ⊢
        split
        · next hk =>
          have hk : e.1 < 1000 := hk
          rw [if_pos hk] at hm
          obtain ⟨P, X, m1, m2, m3, m4, m5⟩ := hm
          rw [p1] at m1
          rw [x1] at m2
          rw [v1] at m5
          cases m1
          cases m2
          cases m5
          exact ⟨P, X, p2, x2, m3, m4, v2⟩
        · next hk =>
          have hk : ¬ e.1 < 1000 := hk
          rw [if_neg hk] at hm
          obtain ⟨a, b, m1, m2, m3⟩ := hm
          rw [p1] at m1
          rw [x1] at m2
          rw [v1] at m3
          cases m1
          cases m2
          cases m3
          exact ⟨zp, zx, p2, x2, v2⟩
      · exact bu_sc_ok k h4 (fun z hz => hc z (List.mem_cons_of_mem _ hz)) e' he'
    · cases h
/-- facts put in; a state that cannot be: the empty list; a fact that cannot be read: none -/
def bu_as (th : List Li) : BS → List Li → Option (List BS)
  | s, [] => some [s]
  | s, f :: fs => match li_s th f with
    | some b => match bs_as s b with
      | some t => bu_as th t fs
      | none => some []
    | none => none
theorem bu_as_ok {nu : List Int} {g : BG} {th : List Li} {np : List Int} (k : li_T nu th np) : ∀ {fs : List Li} {s : BS} {r : List BS}, bu_as th s fs = some r → bs_ok nu g s → lf_ok np fs → ∃ t, t ∈ r ∧ bs_ok nu g t
  | [], s, r, h, hs, _ => by cases h; exact ⟨s, List.mem_singleton.mpr rfl, hs⟩
  | f :: fs, s, r, h, hs, hf => by
    have h : (match li_s th f with
      | some b => match bs_as s b with
        | some t => bu_as th t fs
        | none => some []
      | none => none) = some r := h
    split at h
    · next b hb =>
      obtain ⟨x, x1, x2⟩ := li_s_ok k hb
      obtain ⟨y, y1, y2⟩ := hf f List.mem_cons_self
      rw [x1] at y1
      cases y1
      obtain ⟨t, t1, t2⟩ := bs_as_ok hs x2 y2
      rw [t1] at h
      exact bu_as_ok k h t2 (fun z hz => hf z (List.mem_cons_of_mem _ hz))
    · cases h
/-- an outcome: what is returned, or the exception; its state (names: those of the start, and new ones) -/
abbrev BO : Type := (Option BV ⊕ Nat) × BS
def bo_th (s : BS) (th : List Li) (o : BO) : List Li := th ++ (List.range (o.2.1.length - th.length)).map (fun i => li_n (s.1.length + i))
/-- two entries of one key hold the same -/
def bo_eqs (ca od : BCA) : List Li := ca.flatMap (fun e => if e.1 = 1005 then od.flatMap (fun q => if q.1 = 1005 ∧ q.2.1 = e.2.1 ∧ q.2.2.1 = e.2.2.1 then [li_sub e.2.2.2 q.2.2.2, li_sub q.2.2.2 e.2.2.2] else []) else [])
theorem bo_eqs_ok {nu : List Int} {g g' : BG} {ca od : BCA} (h1 : bc_ok nu g' ca) (h2 : bc_ok nu g od) : ∀ f ∈ bo_eqs ca od, ∃ y, li_e nu f = some y ∧ 0 ≤ y := by
  intro f hf
  obtain ⟨e, he, hf⟩ := List.mem_flatMap.mp hf
  split at hf
  · next k1 =>
    obtain ⟨q, hq, hf⟩ := List.mem_flatMap.mp hf
    split at hf
    · next k2 =>
      obtain ⟨k2, k3, k4⟩ := k2
      have m := h1 e he
      have n := h2 q hq
      unfold bc_e at m n
      rw [k1, if_neg (by decide)] at m
      rw [k2, if_neg (by decide), k3, k4] at n
      obtain ⟨a, b, m1, m2, m3⟩ := m
      obtain ⟨a', b', n1, n2, n3⟩ := n
      rw [m1] at n1
      rw [m2] at n2
      cases n1
      cases n2
      rw [bq_G_F (by decide)] at m3 n3
      simp only [List.mem_cons, List.not_mem_nil, or_false] at hf
      rcases hf with rfl | rfl
      · exact ⟨_, li_e_sub m3 n3, by omega⟩
      · exact ⟨_, li_e_sub n3 m3, by omega⟩
    · cases hf
  · cases hf
def bo_as : BS → List Li → List BS
  | s, [] => [s]
  | s, f :: fs => match bs_as s f with
    | some t => bo_as t fs
    | none => []
theorem bo_as_ok {nu : List Int} {g : BG} : ∀ {fs : List Li} {s : BS}, bs_ok nu g s → (∀ f ∈ fs, ∃ y, li_e nu f = some y ∧ 0 ≤ y) → ∃ t, t ∈ bo_as s fs ∧ bs_ok nu g t
  | [], s, h, _ => ⟨s, List.mem_singleton.mpr rfl, h⟩
  | f :: fs, s, h, k => by
    obtain ⟨y, y1, y2⟩ := k f List.mem_cons_self
    obtain ⟨t, t1, t2⟩ := bs_as_ok h y1 y2
    obtain ⟨r, r1, r2⟩ := bo_as_ok (fs := fs) t2 (fun z hz => k z (List.mem_cons_of_mem _ hz))
    refine ⟨r, ?_, r2⟩
    show r ∈ (match bs_as s f with
      | some t => bo_as t fs
      | none => [])
    rw [t1]
    exact r1
def bo_st (md : List Nat) (s : BS) (th : List Li) (o : BO) : Option (List BS) := match bu_sc (bo_th s th o) o.2.2.2 with
  | some ca => match bu_as (bo_th s th o) (s.1 ++ o.2.1.drop th.length, s.2.1, ca ++ s.2.2.filter (b_kp md)) o.2.2.1 with
    | some r => some (r.flatMap (fun t => bo_as t (bo_eqs ca s.2.2)))
    | none => none
  | none => none
def bo_vl (s : BS) (th : List Li) (o : BO) : Option (List BV ⊕ Nat) := match o.1 with
  | .inl none => some (.inl [])
  | .inl (some v) => match bu_sv (bo_th s th o) v with
    | some w => some (.inl [w])
    | none => none
  | .inr n => some (.inr n)
theorem nu_drop {a b : List Int} (h : nu_le a b) : b = a ++ b.drop a.length := by
  apply List.ext_getElem?
  intro i
  by_cases hi : i < a.length
  · rw [List.getElem?_append_left hi, List.getElem?_eq_getElem hi, h i _ (List.getElem?_eq_getElem hi)]
  · rw [List.getElem?_append_right (by omega), List.getElem?_drop, show a.length + (i - a.length) = i by omega]
theorem bo_ok {md : List Nat} {nu np nq : List Int} {g g' : BG} {s : BS} (hs : bs_ok nu g s) {th : List Li} (k : li_T nu th np) {o : BO} (hq : nu_le np nq) (ho : bs_ok nq g' o.2) (hm : bg_same md g g') : ∃ nv, nu_le nu nv ∧ li_T nv (bo_th s th o) nq ∧ ∀ r, bo_st md s th o = some r → ∃ t, t ∈ r ∧ bs_ok nv g' t := by
  have hlen : np.length ≤ nq.length := by
    rw [nu_drop hq, List.length_append]
    omega
  have hol : o.2.1.length = nq.length := ho.1.1
  have hsl : s.1.length = nu.length := hs.1.1
  have htl := k.1
  have hT : li_T (nu ++ nq.drop np.length) (bo_th s th o) nq := by
    refine ⟨?_, fun i a ha => ?_⟩
    · unfold bo_th
      rw [List.length_append, List.length_map, List.length_range]
      omega
    · unfold bo_th at ha
      by_cases hi : i < th.length
      · rw [List.getElem?_append_left hi] at ha
        obtain ⟨x, x1, x2⟩ := k.2 i a ha
        exact ⟨x, hq i x x1, li_e_mono nu_le.ap x2⟩
      · rw [List.getElem?_append_right (by omega), List.getElem?_map] at ha
        by_cases hi2 : i - th.length < o.2.1.length - th.length
        · rw [List.getElem?_range hi2] at ha
          cases ha
          have hi3 : i < nq.length := by omega
          refine ⟨nq[i], List.getElem?_eq_getElem hi3, li_e_n ?_⟩
          rw [List.getElem?_append_right (by omega), List.getElem?_drop, show np.length + (s.1.length + (i - th.length) - nu.length) = i by omega]
          exact List.getElem?_eq_getElem hi3
        · rw [List.getElem?_eq_none (by rw [List.length_range]; omega)] at ha
          cases ha
  refine ⟨nu ++ nq.drop np.length, nu_le.ap, hT, fun r hr => ?_⟩
  unfold bo_st at hr
  split at hr
  · next ca hca =>
    split at hr
    case h_2 => cases hr
    next r0 hr0 =>
    cases hr
    suffices key : ∃ t, t ∈ r0 ∧ bs_ok (nu ++ nq.drop np.length) g' t by
      obtain ⟨t, t1, t2⟩ := key
      obtain ⟨r, r1, r2⟩ := bo_as_ok t2 (bo_eqs_ok (bu_sc_ok hT hca ho.2.2) (hs.2.2.mono nu_le.ap))
      exact ⟨r, List.mem_flatMap.mpr ⟨t, t1, r1⟩, r2⟩
    refine bu_as_ok hT hr0 ⟨?_, hs.2.1.mono nu_le.ap, ?_⟩ ho.2.1
    · refine ⟨by rw [List.length_append, List.length_append, List.length_drop, List.length_drop]; omega, fun n x hx => ?_⟩
      dsimp only
      by_cases hn : n < nu.length
      · rw [List.getElem?_append_left hn] at hx
        rw [List.getElem?_append_left (by omega)]
        exact hs.1.2 n x hx
      · rw [List.getElem?_append_right (by omega), List.getElem?_drop] at hx
        rw [List.getElem?_append_right (by omega), List.getElem?_drop, show th.length + (n - s.1.length) = np.length + (n - nu.length) by omega]
        exact ho.1.2 _ x hx
    · intro e he
      rcases List.mem_append.mp he with he | he
      · exact bu_sc_ok hT hca ho.2.2 e he
      · exact b_kp_ok hm (hs.2.2.mono nu_le.ap) e he
  · cases hr
