/-! ===== the law, for every script of at most four ints ===== -/
section WST
variable {p : Program} {e : Env} {s : State} {m : MethodId} {below : List Frame} {meth : Method} {c : Code} {l : Launch} {b : Nat} {xs : Nat → Int32}
theorem w_f {a1 a2 a3 : AV} (h1 : ∀ (E : AE) (ws : va_W), ai_V E ws a1 (.int (xs 1))) (h2 : ∀ (E : AE) (ws : va_W), ai_V E ws a2 (.int (xs 2))) (h3 : ∀ (E : AE) (ws : va_W), ai_V E ws a3 (.int (xs 3))) : ∀ (j : Nat) (ws : va_W), j < 4 → ai_V (b, xs 0, xs 1, xs 2) ws (l_scf a1 a2 a3 j) (.int (xs j))
  | 0, _, _ => (ai_VX (by decide)).mpr rfl
  | 1, _, _ => h1 _ _
  | 2, _, _ => h2 _ _
  | 3, _, _ => h3 _ _
  | n + 4, _, h => absurd h (by omega)
theorem w_all (htr : l.stackTraces = false) (htb : c.exceptionTable.toList = []) (C0 : lw_At p s m meth c b 4 xs) {k : Nat} {o1 o2 o3 : Option Nat} (hop : xs 0 &&& 15 = nI k) (h : l_all x_lx k o1 o2 o3 = true) :
    W p l e room_1 s m #[Value.ref b] below meth c s.heap [] 0 0 (lw_Z below #[Value.ref b] s) (entryFrame m ([Value.ref b] : List Value).toArray 7) := by
  obtain ⟨a1, m1, h1⟩ := l_covS o1 (xs 1)
  obtain ⟨a2, m2, h2⟩ := l_covS o2 (xs 2)
  obtain ⟨a3, m3, h3⟩ := l_covS o3 (xs 3)
  have hr := List.all_eq_true.mp (List.all_eq_true.mp (List.all_eq_true.mp h a1 m1) a2 m2) a3 m3
  exact l_start htr C0 htb (E := (b, xs 0, xs 1, xs 2)) rfl (op := some (nI k)) (fun q hq => by cases hq; exact hop) (fun D => x_lx_ok htr) (w_f h1 h2 h3) hr
theorem w_ty (htr : l.stackTraces = false) (htb : c.exceptionTable.toList = []) (C0 : lw_At p s m meth c b 4 xs) (hop : xs 0 &&& 15 = 9) {n : Nat} (hn : n ≤ 8) (h3 : xs 3 = nI n) (h : l_ty n = true) :
    W p l e room_1 s m #[Value.ref b] below meth c s.heap [] 0 0 (lw_Z below #[Value.ref b] s) (entryFrame m ([Value.ref b] : List Value).toArray 7) := by
  obtain ⟨j, j1, j2, j3⟩ := t_first (fun k => t_G (t_c (ai_w0 (b, xs 0, xs 1, xs 2)) k)) n
  have hr := List.all_eq_true.mp h j (List.mem_range.mpr (by omega))
  refine l_start htr C0 htb (E := (b, xs 0, xs 1, xs 2)) rfl (op := some 9) (fun q hq => by cases hq; exact hop) (fun D => x_ty_ok htr hn j1 j2 j3) ?_ hr
  intro i ws hi
  match i, hi with
  | 0, _ => exact (ai_VX (by decide)).mpr rfl
  | 1, _ => exact (ai_VX (by decide)).mpr rfl
  | 2, _ => exact (ai_VX (by decide)).mpr rfl
  | 3, _ => exact congrArg Value.int h3
  | q + 4, h => exact absurd h (by omega)
theorem w_ta (htr : l.stackTraces = false) (htb : c.exceptionTable.toList = []) (C0 : lw_At p s m meth c b 4 xs) (hop : xs 0 &&& 15 = 9) {a : AV} (hm : a ∈ ([.inr (.inl (-2147483648, -1)), .inl 0, .inr (.inl (9, 2147483647))] : List AV)) (h3 : ∀ (E : AE) (ws : va_W), ai_V E ws a (.int (xs 3))) :
    W p l e room_1 s m #[Value.ref b] below meth c s.heap [] 0 0 (lw_Z below #[Value.ref b] s) (entryFrame m ([Value.ref b] : List Value).toArray 7) :=
  l_start htr C0 htb (E := (b, xs 0, xs 1, xs 2)) rfl (op := some 9) (fun q hq => by cases hq; exact hop) (fun D => x_lx_ok htr) (w_f (fun E ws => ai_top_ok _) (fun E ws => ai_top_ok _) h3) (List.all_eq_true.mp l_9a a hm)
theorem w_9 (htr : l.stackTraces = false) (htb : c.exceptionTable.toList = []) (C0 : lw_At p s m meth c b 4 xs) (hop : xs 0 &&& 15 = 9) :
    W p l e room_1 s m #[Value.ref b] below meth c s.heap [] 0 0 (lw_Z below #[Value.ref b] s) (entryFrame m ([Value.ref b] : List Value).toArray 7) := by
  have hlo := Int32.le_toInt (xs 3)
  have hhi := Int32.toInt_lt (xs 3)
  by_cases h : xs 3 < 0
  · refine w_ta htr htb C0 hop List.mem_cons_self (fun E ws => ⟨xs 3, rfl, ?_, ?_⟩)
    · simp at hlo ⊢; omega
    · have := Int32.lt_iff_toInt_lt.mp h
      simp at this ⊢; omega
  · obtain ⟨j, hj, hx⟩ := nI_of h
    match j, hj, hx with
    | 0, _, hx => exact w_ta htr htb C0 hop (List.mem_cons_of_mem _ List.mem_cons_self) (fun E ws => by rw [hx]; rfl)
    | 1, _, hx => exact w_ty htr htb C0 hop (by decide) hx l_9_1
    | 2, _, hx => exact w_ty htr htb C0 hop (by decide) hx l_9_2
    | 3, _, hx => exact w_ty htr htb C0 hop (by decide) hx l_9_3
    | 4, _, hx => exact w_ty htr htb C0 hop (by decide) hx l_9_4
    | 5, _, hx => exact w_ty htr htb C0 hop (by decide) hx l_9_5
    | 6, _, hx => exact w_ty htr htb C0 hop (by decide) hx l_9_6
    | 7, _, hx => exact w_ty htr htb C0 hop (by decide) hx l_9_7
    | 8, _, hx => exact w_ty htr htb C0 hop (by decide) hx l_9_8
    | q + 9, hj, hx =>
      refine w_ta htr htb C0 hop (List.mem_cons_of_mem _ (List.mem_cons_of_mem _ List.mem_cons_self)) (fun E ws => ⟨xs 3, rfl, ?_, ?_⟩)
      · rw [hx, nI_toInt hj]; simp; omega
      · simp at hhi ⊢; omega
end WST
/-- YOUR PART: from the entry, for every script of at most 4 ints, the law comes to its end with true -/
theorem whole_start {p : Program} {e : Env} {s : State} {m : MethodId} {below : List Frame} {meth : Method} {c : Code} (l : Launch) (htr : l.stackTraces = false) (htb : c.exceptionTable.toList = []) {b L : Nat} {xs : Nat → Int32} (hL : L ≤ 4) (C0 : lw_At p s m meth c b L xs) : W p l e room_1 s m #[Value.ref b] below meth c s.heap [] 0 0 (lw_Z below #[Value.ref b] s) (entryFrame m ([Value.ref b] : List Value).toArray 7) := by
  match L, hL, C0 with
  | 0, _, C0 => exact l_start htr C0 htb (E := (b, 0, 0, 0)) rfl (op := none) (fun q hq => by cases hq) (fun D => x_lx_ok htr) (fun j ws _ => ai_top_ok _) l_n0
  | 1, _, C0 => exact l_start htr C0 htb (E := (b, 0, 0, 0)) rfl (op := none) (fun q hq => by cases hq) (fun D => x_lx_ok htr) (fun j ws _ => ai_top_ok _) l_n1
  | 2, _, C0 => exact l_start htr C0 htb (E := (b, 0, 0, 0)) rfl (op := none) (fun q hq => by cases hq) (fun D => x_lx_ok htr) (fun j ws _ => ai_top_ok _) l_n2
  | 3, _, C0 => exact l_start htr C0 htb (E := (b, 0, 0, 0)) rfl (op := none) (fun q hq => by cases hq) (fun D => x_lx_ok htr) (fun j ws _ => ai_top_ok _) l_n3
  | 4, _, C0 =>
    obtain ⟨k, hk, hop⟩ := pk_andE (xs 0) (m := 15) 4 (by decide)
    match k, hk, hop with
    | 0, _, hop => exact w_all htr htb C0 hop l_0
    | 1, _, hop => exact w_all htr htb C0 hop l_1
    | 2, _, hop => exact w_all htr htb C0 hop l_2
    | 3, _, hop => exact w_all htr htb C0 hop l_3
    | 4, _, hop => exact w_all htr htb C0 hop l_4
    | 5, _, hop => exact w_all htr htb C0 hop l_5
    | 6, _, hop => exact w_all htr htb C0 hop l_6
    | 7, _, hop => exact w_all htr htb C0 hop l_7
    | 8, _, hop => exact w_all htr htb C0 hop l_8
    | 9, _, hop => exact w_9 htr htb C0 (hop.trans (by decide))
    | 10, _, hop => exact w_all htr htb C0 hop l_10
    | 11, _, hop => exact w_all htr htb C0 hop l_11
    | 12, _, hop => exact w_all htr htb C0 hop l_12
    | 13, _, hop => exact w_all htr htb C0 hop l_13
    | 14, _, hop => exact w_all htr htb C0 hop l_14
    | 15, _, hop => exact w_all htr htb C0 hop l_15
    | q + 16, hk, _ => exact absurd hk (by omega)
  | q + 5, hL, _ => exact absurd hL (by omega)
