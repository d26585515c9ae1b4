theorem dt_0 : decode (m_cc mm_74) 0 = .ok (.iconst 0, 1) := by decide +kernel
theorem dt_1 : decode (m_cc mm_74) 1 = .ok (.istore_n 3, 1) := by decide +kernel
theorem dt_2 : decode (m_cc mm_74) 2 = .ok (.iload_n 3, 1) := by decide +kernel
theorem dt_3 : decode (m_cc mm_74) 3 = .ok (.iload_n 2, 1) := by decide +kernel
theorem dt_4 : decode (m_cc mm_74) 4 = .ok (.if_icmp .ge 77, 3) := by decide +kernel
theorem dt_7 : decode (m_cc mm_74) 7 = .ok (.iload_n 3, 1) := by decide +kernel
theorem dt_8 : decode (m_cc mm_74) 8 = .ok (.bipush 8, 2) := by decide +kernel
theorem dt_10 : decode (m_cc mm_74) 10 = .ok (.if_icmp .ge 71, 3) := by decide +kernel
theorem dt_13 : decode (m_cc mm_74) 13 = .ok (.lload_n 0, 1) := by decide +kernel
theorem dt_14 : decode (m_cc mm_74) 14 = .ok (.bipush 8, 2) := by decide +kernel
theorem dt_16 : decode (m_cc mm_74) 16 = .ok (.iload_n 3, 1) := by decide +kernel
theorem dt_17 : decode (m_cc mm_74) 17 = .ok (.imul, 1) := by decide +kernel
theorem dt_18 : decode (m_cc mm_74) 18 = .ok (.lushr, 1) := by decide +kernel
theorem dt_19 : decode (m_cc mm_74) 19 = .ok (.l2i, 1) := by decide +kernel
theorem dt_20 : decode (m_cc mm_74) 20 = .ok (.sipush 255, 3) := by decide +kernel
theorem dt_23 : decode (m_cc mm_74) 23 = .ok (.iand, 1) := by decide +kernel
theorem dt_24 : decode (m_cc mm_74) 24 = .ok (.istore 4, 2) := by decide +kernel
theorem dt_26 : decode (m_cc mm_74) 26 = .ok (.iload 4, 2) := by decide +kernel
theorem dt_28 : decode (m_cc mm_74) 28 = .ok (.bipush 97, 2) := by decide +kernel
theorem dt_30 : decode (m_cc mm_74) 30 = .ok (.if_icmp .lt 14, 3) := by decide +kernel
theorem dt_33 : decode (m_cc mm_74) 33 = .ok (.iload 4, 2) := by decide +kernel
theorem dt_35 : decode (m_cc mm_74) 35 = .ok (.bipush 122, 2) := by decide +kernel
theorem dt_37 : decode (m_cc mm_74) 37 = .ok (.if_icmp .gt 7, 3) := by decide +kernel
theorem dt_40 : decode (m_cc mm_74) 40 = .ok (.iconst 1, 1) := by decide +kernel
theorem dt_41 : decode (m_cc mm_74) 41 = .ok (.goto 4, 3) := by decide +kernel
theorem dt_44 : decode (m_cc mm_74) 44 = .ok (.iconst 0, 1) := by decide +kernel
theorem dt_45 : decode (m_cc mm_74) 45 = .ok (.istore 5, 2) := by decide +kernel
theorem dt_47 : decode (m_cc mm_74) 47 = .ok (.iload 5, 2) := by decide +kernel
theorem dt_49 : decode (m_cc mm_74) 49 = .ok (.ifCond .ne 26, 3) := by decide +kernel
theorem dt_52 : decode (m_cc mm_74) 52 = .ok (.iload 4, 2) := by decide +kernel
theorem dt_54 : decode (m_cc mm_74) 54 = .ok (.bipush 46, 2) := by decide +kernel
theorem dt_56 : decode (m_cc mm_74) 56 = .ok (.if_icmp .eq 19, 3) := by decide +kernel
theorem dt_59 : decode (m_cc mm_74) 59 = .ok (.iload 4, 2) := by decide +kernel
theorem dt_61 : decode (m_cc mm_74) 61 = .ok (.bipush 47, 2) := by decide +kernel
theorem dt_63 : decode (m_cc mm_74) 63 = .ok (.if_icmp .eq 12, 3) := by decide +kernel
theorem dt_66 : decode (m_cc mm_74) 66 = .ok (.iload 4, 2) := by decide +kernel
theorem dt_68 : decode (m_cc mm_74) 68 = .ok (.bipush 32, 2) := by decide +kernel
theorem dt_70 : decode (m_cc mm_74) 70 = .ok (.if_icmp .eq 5, 3) := by decide +kernel
theorem dt_73 : decode (m_cc mm_74) 73 = .ok (.iconst 0, 1) := by decide +kernel
theorem dt_74 : decode (m_cc mm_74) 74 = .ok (.ireturn, 1) := by decide +kernel
theorem dt_75 : decode (m_cc mm_74) 75 = .ok (.iinc 3 1, 3) := by decide +kernel
theorem dt_78 : decode (m_cc mm_74) 78 = .ok (.goto (-76), 3) := by decide +kernel
theorem dt_81 : decode (m_cc mm_74) 81 = .ok (.iconst 1, 1) := by decide +kernel
theorem dt_82 : decode (m_cc mm_74) 82 = .ok (.ireturn, 1) := by decide +kernel
section TLP
variable {p : Program} {l : Launch} {e : Env} {R : Room} {s : State} {m : MethodId} {args : Array Value} {below : List Frame} {meth : Method} {c : Code} {H : Heap} {locs : List Loc} {cells slots : Nat} {Q : State → Prop}
set_option maxHeartbeats 2000000 in
theorem t_loop (hx : p.tables.exec = Jvm.exec) (hb : c.code = m_cc mm_74) {w : Int64} {n jb : Nat} (hn : n ≤ 8) (hjb : jb ≤ n) (hg : ∀ k, k < jb → t_G (t_c w k)) (hbad : jb < n → ¬ t_G (t_c w jb))
    (kt : jb = n → ∀ ls : Array Slot, W p l e R s m args below meth c H locs cells slots Q (F0 m 81 ls [])) (kf : jb < n → ∀ ls : Array Slot, W p l e R s m args below meth c H locs cells slots Q (F0 m 73 ls [])) :
    ∀ (k i : Nat), i + k = n → i ≤ jb → ∀ ls : Array Slot, lv_has ls 6 [(3, .int (nI i)), (0, .long w), (2, .int (nI n))] → W p l e R s m args below meth c H locs cells slots Q (F0 m 2 ls [])
  | 0, i, hi, hij, ls, hl => by
    have e : i = n := by omega
    refine lv_iload_n hx hb dt_2 rfl (lv_at hl 0 rfl) ?_
    refine lv_iload_n hx hb dt_3 rfl (lv_at hl 2 rfl) ?_
    exact lv_icmp_ge (tgt := 81) hx hb dt_4 (by decide) (fun _ => kt (by omega) ls) (fun z => absurd (by rw [e]; exact Int32.le_refl _) z)
  | k + 1, i, hi, hij, ls, hl => by
    have ih := t_loop hx hb hn hjb hg hbad kt kf k
    have hin : i < n := by omega
    refine lv_iload_n hx hb dt_2 rfl (lv_at hl 0 rfl) ?_
    refine lv_iload_n hx hb dt_3 rfl (lv_at hl 2 rfl) ?_
    refine lv_icmp_ge (tgt := 81) hx hb dt_4 (by decide) (fun z => absurd z (nI_ge hin (by omega))) (fun _ => ?_)
    refine lv_iload_n hx hb dt_7 rfl (lv_at hl 0 rfl) ?_
    refine lv_bipush (v := 8) hx hb dt_8 (by decide) ?_
    refine lv_icmp_ge (tgt := 81) hx hb dt_10 (by decide) (fun z => absurd z (nI_ge (a := i) (b := 8) (by omega) (by decide))) (fun _ => ?_)
    refine lv_lload_n hx hb dt_13 rfl (lv_at hl 1 rfl) ?_
    refine lv_bipush (v := 8) hx hb dt_14 (by decide) ?_
    refine lv_iload_n hx hb dt_16 rfl (lv_at hl 0 rfl) ?_
    refine lv_imul hx hb dt_17 ?_
    refine lv_lushr hx hb dt_18 rfl ?_
    refine lv_l2i hx hb dt_19 rfl ?_
    refine lv_sipush (v := 255) hx hb dt_20 (by decide) ?_
    refine lv_iand hx hb dt_23 ?_
    refine lv_topi (fun y hy => ?_)
    have hy : y = t_c w i := by
      rw [hy, ← t_eq w i (by omega), show (8 : Int32) * nI i = nI (8 * i) from pk_mul 8 i]
    refine lv_istore (lv' := [(4, .int y), (3, .int (nI i)), (0, .long w), (2, .int (nI n))]) hx hb dt_24 hl (by decide) rfl (fun ls hl => ?_)
    have at75 : ∀ (ls : Array Slot) (b : Int32), lv_has ls 6 [(5, .int b), (4, .int y), (3, .int (nI i)), (0, .long w), (2, .int (nI n))] → t_G y → W p l e R s m args below meth c H locs cells slots Q (F0 m 75 ls []) := by
      intro ls b hl hG
      have hlt : i < jb := by
        rcases Nat.lt_or_ge i jb with g | g
        · exact g
        · have : i = jb := by omega
          subst this
          rw [hy] at hG
          exact absurd hG (hbad hin)
      refine lv_iinc (v := nI (i + 1)) (k := 2) (lv' := [(3, .int (nI (i + 1))), (5, .int b), (4, .int y), (0, .long w), (2, .int (nI n))]) hx hb dt_75 hl rfl (nI_1 i) (by decide) rfl (fun ls hl => ?_)
      refine lv_goto (tgt := 2) hx hb dt_78 (by decide) ?_
      exact ih (i + 1) (by omega) (by omega) ls (lv_sub hl [0, 3, 4] rfl)
    have at44 : ∀ ls : Array Slot, lv_has ls 6 [(4, .int y), (3, .int (nI i)), (0, .long w), (2, .int (nI n))] → ¬ (97 ≤ y ∧ y ≤ 122) → W p l e R s m args below meth c H locs cells slots Q (F0 m 44 ls []) := by
      intro ls hl hnl
      refine lv_iconst (v := 0) hx hb dt_44 (by decide) ?_
      refine lv_istore (lv' := [(5, .int 0), (4, .int y), (3, .int (nI i)), (0, .long w), (2, .int (nI n))]) hx hb dt_45 hl (by decide) rfl (fun ls hl => ?_)
      refine lv_iload hx hb dt_47 (lv_at hl 0 rfl) ?_
      refine lv_if_ne (tgt := 75) hx hb dt_49 (by decide) (fun z => absurd rfl z) (fun _ => ?_)
      refine lv_iload hx hb dt_52 (lv_at hl 1 rfl) ?_
      refine lv_bipush (v := 46) hx hb dt_54 (by decide) ?_
      refine lv_icmp_eq (tgt := 75) hx hb dt_56 (by decide) (fun z => at75 ls 0 hl (Or.inr (Or.inl z))) (fun z1 => ?_)
      refine lv_iload hx hb dt_59 (lv_at hl 1 rfl) ?_
      refine lv_bipush (v := 47) hx hb dt_61 (by decide) ?_
      refine lv_icmp_eq (tgt := 75) hx hb dt_63 (by decide) (fun z => at75 ls 0 hl (Or.inr (Or.inr (Or.inl z)))) (fun z2 => ?_)
      refine lv_iload hx hb dt_66 (lv_at hl 1 rfl) ?_
      refine lv_bipush (v := 32) hx hb dt_68 (by decide) ?_
      refine lv_icmp_eq (tgt := 75) hx hb dt_70 (by decide) (fun z => at75 ls 0 hl (Or.inr (Or.inr (Or.inr z)))) (fun z3 => ?_)
      refine kf ?_ ls
      rcases Nat.lt_or_ge i jb with g | g
      · have hG := hg i g
        rw [← hy] at hG
        rcases hG with hG | hG | hG | hG
        · exact absurd hG hnl
        · exact absurd hG z1
        · exact absurd hG z2
        · exact absurd hG z3
      · omega
    refine lv_iload hx hb dt_26 (lv_at hl 0 rfl) ?_
    refine lv_bipush (v := 97) hx hb dt_28 (by decide) ?_
    refine lv_icmp_lt (tgt := 44) hx hb dt_30 (by decide) (fun z => at44 ls hl (fun q => absurd q.1 (Int32.not_le.mpr z))) (fun z1 => ?_)
    refine lv_iload hx hb dt_33 (lv_at hl 0 rfl) ?_
    refine lv_bipush (v := 122) hx hb dt_35 (by decide) ?_
    refine lv_icmp_gt (tgt := 44) hx hb dt_37 (by decide) (fun z => at44 ls hl (fun q => absurd q.2 (Int32.not_le.mpr z))) (fun z2 => ?_)
    refine lv_iconst (v := 1) hx hb dt_40 (by decide) ?_
    refine lv_goto (tgt := 45) hx hb dt_41 (by decide) ?_
    refine lv_istore (lv' := [(5, .int 1), (4, .int y), (3, .int (nI i)), (0, .long w), (2, .int (nI n))]) hx hb dt_45 hl (by decide) rfl (fun ls hl => ?_)
    refine lv_iload hx hb dt_47 (lv_at hl 0 rfl) ?_
    exact lv_if_ne (tgt := 75) hx hb dt_49 (by decide) (fun _ => at75 ls 1 hl (Or.inl ⟨Int32.not_lt.mp z1, Int32.not_lt.mp z2⟩)) (fun z => absurd z (by decide))
end TLP
set_option maxHeartbeats 2000000 in
/-- areTextSigns, where the first bad sign is known -/
theorem t_ats {l : Launch} {D : va_G} {E : AE} {n jb : Nat} (hn : n ≤ 8) (hjb : jb ≤ n) (hg : ∀ k, k < jb → t_G (t_c (ai_w0 E) k)) (hbad : jb < n → ¬ t_G (t_c (ai_w0 E) jb)) (σ : List AC) (d : Nat) :
    ai_CT l D E mm_74 [.inr (.inr (.inr (.inr 1))), .inl (nI n)] σ d (.inl (some (.inl (if jb < n then 0 else 1))), σ, 0, 0) := by
  intro ws sz av hav
  match av, hav with
  | [], hav => exact hav.elim
  | [_], ⟨_, hav⟩ => exact hav.elim
  | _ :: _ :: _ :: _, ⟨_, _, hav⟩ => exact hav.elim
  | [v1, v2], ⟨h1, h2, _⟩ =>
    have h1 : v1 = .long (ai_w0 E) := (ai_VX (by decide)).mp h1
    have h2 : v2 = .int (nI n) := h2
    subst h1; subst h2
    generalize hres : (if jb < n then (0 : Int32) else 1) = res
    refine vx_ofW (cc := m_cc mm_74) (maxL := 6) (ret := some .boolean) (ws' := m_G) (by decide +kernel) rfl ?_
    intro p e s m args below meth c s₁ B hml hempty hP
    obtain ⟨rfl, hsz, hW, hPP, hD, hG, hZ⟩ := hP
    subst hsz
    have hx := B.exec
    have hb := B.bytes
    have hr := B.returns
    have hlocks := B.notSynchronized
    have fin : ∀ (q : Int32) (pc : Nat) (ls : Array Slot), q = res → narrow .boolean (.int q) = .int q → decode (m_cc mm_74) pc = .ok (.ireturn, 1) → W p l e (headSpec (m_ws mm_74) (ai_rm d 0 0)).room s m [Value.long (ai_w0 E), Value.int (nI n)].toArray below meth c s.heap [] 0 0 (vx_MQ below (ai_Q E D (.inl (some (.inl res))) σ ws (va_A ws s.heap.size)) (ai_X E D (.inl (some (.inl res))) σ ws (va_A ws s.heap.size)) [Value.long (ai_w0 E), Value.int (nI n)].toArray s 0 0 (va_A ws s.heap.size)) (F0 m pc ls [.int q]) := by
      intro q pc ls hq hnar hd
      subst hq
      exact vx_ret (W.zret hx hb hr hnar (fun t ht hw => ⟨some (.inl q), some (.int q), ws, rfl, rfl, rfl, ai_end hW ai_Ext.rf hPP hD.self va_S.rf ht hw.alike⟩) (fun q h => by cases h) hd hlocks)
    rw [lg_entry_eq]
    have hl := lv_entry [.long (ai_w0 E), .int (nI n)] (n := 6) (Nat.le_of_ble_eq_true rfl)
    generalize (lg_sl [.long (ai_w0 E), .int (nI n)] ++ List.replicate (6 - (lg_sl [.long (ai_w0 E), .int (nI n)]).length) Slot.unset).toArray = ls at hl ⊢
    have hl : lv_has ls 6 [(0, .long (ai_w0 E)), (2, .int (nI n))] := hl
    refine lv_iconst (v := 0) hx hb dt_0 (by decide) ?_
    refine lv_istore_n (lv' := [(3, .int 0), (0, .long (ai_w0 E)), (2, .int (nI n))]) hx hb dt_1 rfl hl (by decide) rfl (fun ls hl => ?_)
    refine t_loop hx hb hn hjb hg hbad (fun he ls => ?_) (fun hlt ls => ?_) n 0 (by omega) (by omega) ls hl
    · refine lv_iconst (v := 1) hx hb dt_81 (by decide) ?_
      exact fin 1 82 ls (by rw [← hres, if_neg (by omega)]) (by decide) dt_82
    · refine lv_iconst (v := 0) hx hb dt_73 (by decide) ?_
      exact fin 0 74 ls (by rw [← hres, if_pos hlt]) (by decide) dt_74
