/-! ===== machine B: linear forms over named unknowns, their bounds and facts ===== -/
abbrev LT : Type := List (Nat × Int)
abbrev Li : Type := Int × LT
def li_t (nu : List Int) : LT → Option Int
  | [] => some 0
  | q :: r => match nu[q.1]?, li_t nu r with
    | some x, some y => some (q.2 * x + y)
    | _, _ => none
def li_e (nu : List Int) (a : Li) : Option Int := match li_t nu a.2 with
  | some y => some (a.1 + y)
  | none => none
def li_c (c : Int) : Li := (c, [])
def li_n (n : Nat) : Li := (0, [(n, 1)])
def li_in (n : Nat) (c : Int) : LT → LT
  | [] => [(n, c)]
  | q :: r => if q.1 = n then (if c + q.2 = 0 then r else (n, c + q.2) :: r) else if n < q.1 then (n, c) :: q :: r else q :: li_in n c r
def li_addt (a b : LT) : LT := match a with
  | [] => b
  | q :: r => li_in q.1 q.2 (li_addt r b)
def li_add (a b : Li) : Li := (a.1 + b.1, li_addt a.2 b.2)
def li_mult (k : Int) : LT → LT
  | [] => []
  | q :: r => (q.1, k * q.2) :: li_mult k r
def li_mul (k : Int) (a : Li) : Li := if k = 0 then (0, []) else (k * a.1, li_mult k a.2)
def li_sub (a b : Li) : Li := li_add a (li_mul (-1) b)
def li_sh (k : Int) (a : Li) : Li := (a.1 + k, a.2)
/-- the later naming knows all that the earlier knew -/
def nu_le (nu nv : List Int) : Prop := ∀ (n : Nat) (x : Int), nu[n]? = some x → nv[n]? = some x
theorem nu_le.rf {nu : List Int} : nu_le nu nu := fun _ _ h => h
theorem nu_le.tr {a b c : List Int} (h : nu_le a b) (k : nu_le b c) : nu_le a c := fun n x q => k n x (h n x q)
theorem nu_le.ap {nu ys : List Int} : nu_le nu (nu ++ ys) := fun n x h => by
  rw [List.getElem?_append_left (List.getElem?_eq_some_iff.mp h).1]; exact h
theorem li_t_cons {nu : List Int} {q : Nat × Int} {r : LT} {z : Int} (h : li_t nu (q :: r) = some z) : ∃ x y, nu[q.1]? = some x ∧ li_t nu r = some y ∧ z = q.2 * x + y := by
  have h : (match nu[q.1]?, li_t nu r with
    | some x, some y => some (q.2 * x + y)
    | _, _ => none) = some z := h
  split at h
  · next x y h1 h2 => cases h; exact ⟨x, y, h1, h2, rfl⟩
  · cases h
theorem li_t_mk {nu : List Int} {q : Nat × Int} {r : LT} {x y : Int} (h1 : nu[q.1]? = some x) (h2 : li_t nu r = some y) : li_t nu (q :: r) = some (q.2 * x + y) := by
  show (match nu[q.1]?, li_t nu r with
    | some x, some y => some (q.2 * x + y)
    | _, _ => none) = _
  rw [h1, h2]
theorem li_e_of {nu : List Int} {a : Li} {z : Int} (h : li_e nu a = some z) : ∃ y, li_t nu a.2 = some y ∧ z = a.1 + y := by
  unfold li_e at h
  split at h
  · next y hy => cases h; exact ⟨y, hy, rfl⟩
  · cases h
theorem li_e_mk {nu : List Int} {a : Li} {y : Int} (h : li_t nu a.2 = some y) : li_e nu a = some (a.1 + y) := by unfold li_e; rw [h]
theorem li_t_mono {nu nv : List Int} (h : nu_le nu nv) : ∀ {a : LT} {z : Int}, li_t nu a = some z → li_t nv a = some z
  | [], _, k => k
  | q :: r, z, k => by
    obtain ⟨x, y, h1, h2, rfl⟩ := li_t_cons k
    exact li_t_mk (h _ _ h1) (li_t_mono h h2)
theorem li_e_mono {nu nv : List Int} (h : nu_le nu nv) {a : Li} {z : Int} (k : li_e nu a = some z) : li_e nv a = some z := by
  obtain ⟨y, h1, rfl⟩ := li_e_of k
  exact li_e_mk (li_t_mono h h1)
theorem li_e_c (nu : List Int) (c : Int) : li_e nu (li_c c) = some c := by
  show some (c + 0) = some c
  rw [Int.add_zero]
theorem li_e_n {nu : List Int} {n : Nat} {x : Int} (h : nu[n]? = some x) : li_e nu (li_n n) = some x := by
  have := li_e_mk (a := li_n n) (li_t_mk (q := (n, 1)) (r := []) h rfl)
  rw [this]
  exact congrArg some (by show (0 : Int) + (1 * x + 0) = x; omega)
theorem li_t_in {nu : List Int} {n : Nat} {c x : Int} (hx : nu[n]? = some x) : ∀ {l : LT} {y : Int}, li_t nu l = some y → li_t nu (li_in n c l) = some (c * x + y)
  | [], y, k => by
    cases k
    exact li_t_mk hx rfl
  | q :: r, z, k => by
    obtain ⟨u, y, h1, h2, rfl⟩ := li_t_cons k
    show li_t nu (if q.1 = n then (if c + q.2 = 0 then r else (n, c + q.2) :: r) else if n < q.1 then (n, c) :: q :: r else q :: li_in n c r) = _
    split
    · next e =>
      rw [e, hx] at h1
      cases h1
      split
      · next e0 =>
        rw [h2]
        have : c * x + (q.2 * x + y) = (c + q.2) * x + y := by rw [Int.add_mul]; omega
        rw [this, e0]
        exact congrArg some (by omega)
      · have := li_t_mk (q := (n, c + q.2)) hx h2
        rw [this]
        exact congrArg some (by show (c + q.2) * x + y = _; rw [Int.add_mul]; omega)
    · split
      · exact li_t_mk hx (li_t_mk h1 h2)
      · have := li_t_mk (q := q) h1 (li_t_in (c := c) hx h2)
        rw [this]
        exact congrArg some (by omega)
theorem li_t_add {nu : List Int} : ∀ {a b : LT} {x y : Int}, li_t nu a = some x → li_t nu b = some y → li_t nu (li_addt a b) = some (x + y)
  | [], b, x, y, h, k => by
    cases h
    rw [Int.zero_add]; exact k
  | q :: r, b, x, y, h, k => by
    obtain ⟨u, w, h1, h2, rfl⟩ := li_t_cons h
    have := li_t_in (c := q.2) h1 (li_t_add h2 k)
    show li_t nu (li_in q.1 q.2 (li_addt r b)) = _
    rw [this]
    exact congrArg some (by omega)
theorem li_e_add {nu : List Int} {a b : Li} {x y : Int} (h : li_e nu a = some x) (k : li_e nu b = some y) : li_e nu (li_add a b) = some (x + y) := by
  obtain ⟨u, h1, rfl⟩ := li_e_of h
  obtain ⟨v, h2, rfl⟩ := li_e_of k
  have := li_e_mk (a := li_add a b) (li_t_add h1 h2)
  rw [this]
  exact congrArg some (by show a.1 + b.1 + (u + v) = _; omega)
theorem li_t_mul {nu : List Int} (k : Int) : ∀ {a : LT} {x : Int}, li_t nu a = some x → li_t nu (li_mult k a) = some (k * x)
  | [], x, h => by
    cases h
    show some (0 : Int) = _
    rw [Int.mul_zero]
  | q :: r, x, h => by
    obtain ⟨u, y, h1, h2, rfl⟩ := li_t_cons h
    have := li_t_mk (q := (q.1, k * q.2)) h1 (li_t_mul k h2)
    show li_t nu ((q.1, k * q.2) :: li_mult k r) = _
    rw [this]
    exact congrArg some (by show k * q.2 * u + k * y = _; rw [Int.mul_add, Int.mul_assoc])
theorem li_e_mul {nu : List Int} (k : Int) {a : Li} {x : Int} (h : li_e nu a = some x) : li_e nu (li_mul k a) = some (k * x) := by
  unfold li_mul
  split
  · next e => rw [e, Int.zero_mul]; rfl
  · obtain ⟨u, h1, rfl⟩ := li_e_of h
    have := li_e_mk (a := (k * a.1, li_mult k a.2)) (li_t_mul k h1)
    rw [this]
    exact congrArg some (by show k * a.1 + k * u = _; rw [Int.mul_add])
theorem li_e_sub {nu : List Int} {a b : Li} {x y : Int} (h : li_e nu a = some x) (k : li_e nu b = some y) : li_e nu (li_sub a b) = some (x - y) := by
  have := li_e_add h (li_e_mul (-1) k)
  unfold li_sub
  rw [this]
  exact congrArg some (by omega)
theorem li_e_sh {nu : List Int} (k : Int) {a : Li} {x : Int} (h : li_e nu a = some x) : li_e nu (li_sh k a) = some (x + k) := by
  obtain ⟨u, h1, rfl⟩ := li_e_of h
  have := li_e_mk (a := li_sh k a) h1
  rw [this]
  exact congrArg some (by show a.1 + k + u = _; omega)
/-! bounds of the names -/
abbrev LB : Type := List (Int × Int)
def lb_ok (nu : List Int) (be : LB) : Prop := be.length = nu.length ∧ ∀ (n : Nat) (x : Int), nu[n]? = some x → ∃ q, be[n]? = some q ∧ q.1 ≤ x ∧ x ≤ q.2
def li_vt (be : LB) : LT → Int × Int
  | [] => (0, 0)
  | q :: r => match be[q.1]?, li_vt be r with
    | some b, w => if 0 ≤ q.2 then (q.2 * b.1 + w.1, q.2 * b.2 + w.2) else (q.2 * b.2 + w.1, q.2 * b.1 + w.2)
    | none, w => w
def li_v (be : LB) (a : Li) : Int × Int := match li_vt be a.2 with
  | w => (a.1 + w.1, a.1 + w.2)
theorem li_vt_ok {nu : List Int} {be : LB} (hb : lb_ok nu be) : ∀ {a : LT} {x : Int}, li_t nu a = some x → (li_vt be a).1 ≤ x ∧ x ≤ (li_vt be a).2
  | [], x, h => by cases h; exact ⟨Int.le_refl _, Int.le_refl _⟩
  | q :: r, x, h => by
    obtain ⟨u, y, h1, h2, rfl⟩ := li_t_cons h
    obtain ⟨b, hb1, hb2, hb3⟩ := hb.2 _ _ h1
    obtain ⟨i1, i2⟩ := li_vt_ok hb h2
    have e : li_vt be (q :: r) = if 0 ≤ q.2 then (q.2 * b.1 + (li_vt be r).1, q.2 * b.2 + (li_vt be r).2) else (q.2 * b.2 + (li_vt be r).1, q.2 * b.1 + (li_vt be r).2) := by
      show (match be[q.1]?, li_vt be r with
        | some b, w => if 0 ≤ q.2 then (q.2 * b.1 + w.1, q.2 * b.2 + w.2) else (q.2 * b.2 + w.1, q.2 * b.1 + w.2)
        | none, w => w) = _
      rw [hb1]
    rw [e]
    split
    · next hc =>
      have l1 := Int.mul_le_mul_of_nonneg_left hb2 hc
      have l2 := Int.mul_le_mul_of_nonneg_left hb3 hc
      exact ⟨by show q.2 * b.1 + _ ≤ _; omega, by show _ ≤ q.2 * b.2 + _; omega⟩
    · next hc =>
      have l1 := Int.mul_le_mul_of_nonpos_left (a := q.2) (by omega) hb2
      have l2 := Int.mul_le_mul_of_nonpos_left (a := q.2) (by omega) hb3
      exact ⟨by show q.2 * b.2 + _ ≤ _; omega, by show _ ≤ q.2 * b.1 + _; omega⟩
theorem li_v_ok {nu : List Int} {be : LB} (hb : lb_ok nu be) {a : Li} {x : Int} (h : li_e nu a = some x) : (li_v be a).1 ≤ x ∧ x ≤ (li_v be a).2 := by
  obtain ⟨u, h1, rfl⟩ := li_e_of h
  obtain ⟨i1, i2⟩ := li_vt_ok hb h1
  exact ⟨by show a.1 + (li_vt be a.2).1 ≤ _; omega, by show _ ≤ a.1 + (li_vt be a.2).2; omega⟩
theorem lb_ok.new {nu : List Int} {be : LB} (hb : lb_ok nu be) {x : Int} {q : Int × Int} (h1 : q.1 ≤ x) (h2 : x ≤ q.2) : lb_ok (nu ++ [x]) (be ++ [q]) := by
  refine ⟨by rw [List.length_append, List.length_append, hb.1]; rfl, fun n y h => ?_⟩
  by_cases hn : n < nu.length
  · rw [List.getElem?_append_left hn] at h
    obtain ⟨p, k1, k2⟩ := hb.2 n y h
    exact ⟨p, by rw [List.getElem?_append_left (by rw [hb.1]; exact hn)]; exact k1, k2⟩
  · rw [List.getElem?_append_right (by omega)] at h
    have hz : n - nu.length < 1 := (List.getElem?_eq_some_iff.mp h).1
    rw [show n - nu.length = 0 by omega] at h
    cases h
    refine ⟨q, ?_, h1, h2⟩
    rw [List.getElem?_append_right (by rw [hb.1]; omega), hb.1, show n - nu.length = 0 by omega]
    rfl
theorem nu_new {nu : List Int} {be : LB} (hb : lb_ok nu be) (x : Int) : (nu ++ [x])[be.length]? = some x := by
  rw [hb.1, List.getElem?_append_right (Nat.le_refl _), Nat.sub_self]
  rfl
theorem lb_ok.set {nu : List Int} {be : LB} (hb : lb_ok nu be) {n : Nat} {x : Int} (hx : nu[n]? = some x) {q : Int × Int} (h1 : q.1 ≤ x) (h2 : x ≤ q.2) : lb_ok nu (be.set n q) := by
  refine ⟨by rw [List.length_set]; exact hb.1, fun m y h => ?_⟩
  rw [List.getElem?_set]
  by_cases e : n = m
  · subst e
    rw [hx] at h
    cases h
    have : n < be.length := by rw [hb.1]; exact (List.getElem?_eq_some_iff.mp hx).1
    rw [if_pos rfl, if_pos this]
    exact ⟨q, rfl, h1, h2⟩
  · rw [if_neg e]
    exact hb.2 m y h
/-! facts -/
def lf_ok (nu : List Int) (fs : List Li) : Prop := ∀ f, f ∈ fs → ∃ x, li_e nu f = some x ∧ 0 ≤ x
theorem lf_ok.mono {nu nv : List Int} (h : nu_le nu nv) {fs : List Li} (k : lf_ok nu fs) : lf_ok nv fs := fun f hf => by
  obtain ⟨x, h1, h2⟩ := k f hf
  exact ⟨x, li_e_mono h h1, h2⟩
theorem lf_ok.cons {nu : List Int} {f : Li} {fs : List Li} {x : Int} (h : li_e nu f = some x) (hx : 0 ≤ x) (k : lf_ok nu fs) : lf_ok nu (f :: fs) := fun g hg => by
  rcases List.mem_cons.mp hg with rfl | hg
  · exact ⟨x, h, hx⟩
  · exact k g hg
def le_0 (be : LB) (a : Li) : Bool := decide (0 ≤ (li_v be a).1)
/-- how many times a fact is taken -/
def li_ra (a f : Li) : Int := match f.2 with
  | [] => 1
  | q :: _ => match a.2.find? (fun r => r.1 == q.1) with
    | some r => if 1 < r.2 / q.2 then r.2 / q.2 else 1
    | none => 1
theorem li_ra_pos (a f : Li) : 0 ≤ li_ra a f := by
  unfold li_ra
  split
  · omega
  · split
    · split <;> omega
    · omega
def le_1 (be : LB) (fs : List Li) (a : Li) : Bool := fs.any (fun f => le_0 be (li_sub a f) || (decide (li_ra a f ≠ 1) && le_0 be (li_sub a (li_mul (li_ra a f) f))))
/-- a form that is never below 0 -/
def le_f (be : LB) (fs : List Li) (a : Li) : Bool := le_0 be a || (le_1 be fs a || fs.any (fun f => le_1 be fs (li_sub a f)))
theorem le_0_ok {nu : List Int} {be : LB} (hb : lb_ok nu be) {a : Li} (h : le_0 be a = true) {x : Int} (hx : li_e nu a = some x) : 0 ≤ x := by
  have := (li_v_ok hb hx).1
  have h := of_decide_eq_true h
  omega
theorem le_1_ok {nu : List Int} {be : LB} (hb : lb_ok nu be) {fs : List Li} (hf : lf_ok nu fs) {a : Li} (h : le_1 be fs a = true) {x : Int} (hx : li_e nu a = some x) : 0 ≤ x := by
  obtain ⟨f, hm, h⟩ := List.any_eq_true.mp h
  obtain ⟨y, h1, h2⟩ := hf f hm
  rw [Bool.or_eq_true, Bool.and_eq_true] at h
  rcases h with h | h
  · have := le_0_ok hb h (li_e_sub hx h1)
    omega
  · have h3 := le_0_ok hb h.2 (li_e_sub hx (li_e_mul (li_ra a f) h1))
    have h4 := Int.mul_nonneg (li_ra_pos a f) h2
    omega
theorem le_f_ok {nu : List Int} {be : LB} (hb : lb_ok nu be) {fs : List Li} (hf : lf_ok nu fs) {a : Li} (h : le_f be fs a = true) {x : Int} (hx : li_e nu a = some x) : 0 ≤ x := by
  unfold le_f at h
  rw [Bool.or_eq_true, Bool.or_eq_true] at h
  rcases h with h | h | h
  · exact le_0_ok hb h hx
  · exact le_1_ok hb hf h hx
  · obtain ⟨f, hm, h⟩ := List.any_eq_true.mp h
    obtain ⟨y, h1, h2⟩ := hf f hm
    have := le_1_ok hb hf h (li_e_sub hx h1)
    omega
/-- narrower bounds of a name, by a form that is not below 0 and never above hi -/
def lt_nb (b : Int × Int) (c hi : Int) : Int × Int := if 0 < c then (max b.1 (-((hi - c * b.2) / c)), b.2) else if c < 0 then (b.1, min b.2 ((hi - c * b.1) / (-c))) else b
def lt_nl (be0 : LB) (hi : Int) : LT → LB → LB
  | [], be => be
  | q :: r, be => match be0[q.1]? with
    | some b => lt_nl be0 hi r (be.set q.1 (lt_nb b q.2 hi))
    | none => lt_nl be0 hi r be
def lt_cm (c : Int) (b : Int × Int) : Int := if 0 ≤ c then c * b.2 else c * b.1
theorem lt_cm_ok {c z : Int} {b : Int × Int} (h1 : b.1 ≤ z) (h2 : z ≤ b.2) : c * z ≤ lt_cm c b := by
  unfold lt_cm
  split
  · next hc => exact Int.mul_le_mul_of_nonneg_left h2 hc
  · next hc => exact Int.mul_le_mul_of_nonpos_left (a := c) (by omega) h1
theorem li_vt_cons {be : LB} {q : Nat × Int} {r : LT} {b : Int × Int} (hb : be[q.1]? = some b) : (li_vt be (q :: r)).2 = lt_cm q.2 b + (li_vt be r).2 := by
  have e : li_vt be (q :: r) = if 0 ≤ q.2 then (q.2 * b.1 + (li_vt be r).1, q.2 * b.2 + (li_vt be r).2) else (q.2 * b.2 + (li_vt be r).1, q.2 * b.1 + (li_vt be r).2) := by
    show (match be[q.1]?, li_vt be r with
      | some b, w => if 0 ≤ q.2 then (q.2 * b.1 + w.1, q.2 * b.2 + w.2) else (q.2 * b.2 + w.1, q.2 * b.1 + w.2)
      | none, w => w) = _
    rw [hb]
  rw [e]
  unfold lt_cm
  split <;> rfl
theorem lt_rest {nu : List Int} {be : LB} (hb : lb_ok nu be) : ∀ {a : LT} {y : Int}, li_t nu a = some y → ∀ q, q ∈ a → ∃ z b, nu[q.1]? = some z ∧ be[q.1]? = some b ∧ b.1 ≤ z ∧ z ≤ b.2 ∧ y - q.2 * z ≤ (li_vt be a).2 - lt_cm q.2 b
  | [], y, h, q, hq => by cases hq
  | p :: r, y, h, q, hq => by
    obtain ⟨u, w, h1, h2, rfl⟩ := li_t_cons h
    obtain ⟨b, hb1, hb2, hb3⟩ := hb.2 _ _ h1
    have e := li_vt_cons (r := r) hb1
    rcases List.mem_cons.mp hq with rfl | hq
    · refine ⟨u, b, h1, hb1, hb2, hb3, ?_⟩
      have := (li_vt_ok hb h2).2
      omega
    · obtain ⟨z, c, z1, z2, z3, z4, z5⟩ := lt_rest hb h2 q hq
      refine ⟨z, c, z1, z2, z3, z4, ?_⟩
      have := lt_cm_ok (c := p.2) hb2 hb3
      omega
theorem lt_nb_ok {z c hi : Int} {b : Int × Int} (h1 : b.1 ≤ z) (h2 : z ≤ b.2) (h : 0 ≤ c * z + (hi - lt_cm c b)) : (lt_nb b c hi).1 ≤ z ∧ z ≤ (lt_nb b c hi).2 := by
  unfold lt_nb
  split
  · next hc =>
    have e : lt_cm c b = c * b.2 := if_pos (by omega)
    rw [e] at h
    refine ⟨?_, h2⟩
    show max b.1 (-((hi - c * b.2) / c)) ≤ z
    have h3 : -((hi - c * b.2) / c) ≤ z := by
      have e1 := Int.mul_ediv_add_emod (hi - c * b.2) c
      have e2 := Int.emod_lt_of_pos (hi - c * b.2) hc
      have h4 : 0 ≤ c * (z + (hi - c * b.2) / c) + (hi - c * b.2) % c := by rw [Int.mul_add]; omega
      have h5 : -1 < z + (hi - c * b.2) / c := by
        rcases Int.lt_or_le (-1) (z + (hi - c * b.2) / c) with g | g
        · exact g
        · have := Int.mul_le_mul_of_nonneg_left g (Int.le_of_lt hc)
          omega
      omega
    omega
  · split
    · next hn hc =>
      have e : lt_cm c b = c * b.1 := if_neg (by omega)
      rw [e] at h
      refine ⟨h1, ?_⟩
      show z ≤ min b.2 ((hi - c * b.1) / (-c))
      have h3 : z ≤ (hi - c * b.1) / (-c) := by
        rw [Int.le_ediv_iff_mul_le (by omega), Int.mul_comm, Int.neg_mul]
        omega
      omega
    · exact ⟨h1, h2⟩
theorem lt_nl_ok {nu : List Int} {be0 : LB} {hi : Int} : ∀ {r : LT} {be : LB}, (∀ q, q ∈ r → ∃ z b, nu[q.1]? = some z ∧ be0[q.1]? = some b ∧ (lt_nb b q.2 hi).1 ≤ z ∧ z ≤ (lt_nb b q.2 hi).2) → lb_ok nu be → lb_ok nu (lt_nl be0 hi r be)
  | [], be, _, h => h
  | q :: r, be, k, h => by
    obtain ⟨z, b, z1, z2, z3, z4⟩ := k q List.mem_cons_self
    show lb_ok nu (match be0[q.1]? with
      | some b => lt_nl be0 hi r (be.set q.1 (lt_nb b q.2 hi))
      | none => lt_nl be0 hi r be)
    rw [z2]
    exact lt_nl_ok (fun p hp => k p (List.mem_cons_of_mem _ hp)) (h.set z1 z3 z4)
/-- what is known more when a form is not below 0; none: it is always below -/
def lt_as (be : LB) (fs : List Li) (a : Li) : Option (LB × List Li) :=
  if (li_v be a).2 < 0 then none
  else if 0 ≤ (li_v be a).1 then some (be, fs)
  else match a.2 with
    | [q] => some (lt_nl be (li_v be a).2 [q] be, fs)
    | l => some (lt_nl be (li_v be a).2 l be, a :: fs)
theorem lt_as_ok {nu : List Int} {be : LB} (hb : lb_ok nu be) {fs : List Li} (hf : lf_ok nu fs) {a : Li} {x : Int} (hx : li_e nu a = some x) (h0 : 0 ≤ x) : ∃ r, lt_as be fs a = some r ∧ lb_ok nu r.1 ∧ lf_ok nu r.2 := by
  unfold lt_as
  have hv := li_v_ok hb hx
  rw [if_neg (by omega)]
  split
  · exact ⟨_, rfl, hb, hf⟩
  · obtain ⟨u, h1, h2⟩ := li_e_of hx
    have key : ∀ q, q ∈ a.2 → ∃ z b, nu[q.1]? = some z ∧ be[q.1]? = some b ∧ (lt_nb b q.2 (li_v be a).2).1 ≤ z ∧ z ≤ (lt_nb b q.2 (li_v be a).2).2 := by
      intro q hq
      obtain ⟨z, b, z1, z2, z3, z4, z5⟩ := lt_rest hb h1 q hq
      refine ⟨z, b, z1, z2, lt_nb_ok z3 z4 ?_⟩
      have e : (li_v be a).2 = a.1 + (li_vt be a.2).2 := rfl
      omega
    split
    · next q hq => exact ⟨_, rfl, lt_nl_ok (fun p hp => key p (by rw [hq]; exact hp)) hb, hf⟩
    · exact ⟨_, rfl, lt_nl_ok key hb, hf.cons hx h0⟩
