/-! ===== contracts moved along equal worlds ===== -/
theorem vx_Met_mono {l : Launch} {y : MethodName} {ws : List Cond} {rm : Room} {Pc Pc' : Array Value → State → Prop} {Qc Qc' : Array Value → State → Outcome → State → Prop} {XC XC' : String → State → State → Prop} {mc ms : Nat} {free : Addr → Prop} (h : vx_Met l y ws rm Pc Qc XC mc ms free) (hP : ∀ a s, Pc' a s → Pc a s) (hQ : ∀ a s o t, Qc a s o t → Qc' a s o t) (hX : ∀ N s t, XC N s t → XC' N s t) : vx_Met l y ws rm Pc' Qc' XC' mc ms free := by
  intro p e ha hc hk s m args below hf happ hPc hK
  obtain ⟨n, o, h1, h2, h3, hq⟩ := h p e ha hc hk s m args below hf happ (hP _ _ hPc) hK
  refine ⟨n, o, h1, h2, h3, ?_⟩
  rcases hq with ⟨q1, q2⟩ | ⟨q, ho, E, ce, L, hx, hr⟩
  · exact Or.inl ⟨hQ _ _ _ _ q1, q2⟩
  · exact Or.inr ⟨q, ho, E, ce, L, hX _ _ _ hx, hr⟩
theorem ai_CT_eq {l : Launch} {D : va_G} {E : AE} {M : AM} {as : List AV} {σ σ2 τ : List AC} {d : Nat} {o : Option AV ⊕ Nat} {τ2 : List AC} {dc ds : Nat} (h : ai_CT l D E M as σ d (o, τ, dc, ds)) (h1 : ai_eqW σ2 σ = true) (h2 : ai_eqW τ τ2 = true) : ai_CT l D E M as σ2 d (o, τ2, dc, ds) := by
  intro ws sz av hav
  refine vx_Met_mono (h ws sz av hav) ?_ ?_ ?_
  · intro a s hp
    obtain ⟨p0, p1, p2, p3⟩ := hp
    exact ⟨p0, p1, ai_eqW_ok h1 p2, p3⟩
  · intro a s oc t hq
    obtain ⟨ov, v, ws', g1, g2, g3, g4, g5⟩ := hq
    exact ⟨ov, v, ws', g1, g2, g3, ai_eqW_ok h2 g4, g5⟩
  · intro N s t hx
    obtain ⟨n, ws', g1, g2, g4, g5⟩ := hx
    exact ⟨n, ws', g1, g2, ai_eqW_ok h2 g4, g5⟩
