/-! ===== the reference: plain stories ===== -/
theorem i100 : (100 : Int32).toInt = 100 := by decide
theorem R_plain {E : EV} {Q : Sg → Prop} {σ : Sg} {A : Ab} {set : Int32} (h : RepM σ A) (g : Good A) (hq : ∀ τ, Fr 40 57 σ τ → RepM τ A → gi τ 4022 = emG A set A.2.1.1.length → AllM τ A.1.length (fun t => tale A t set) → Q τ) : MetV E mi_X6_goPlain [.ref 40, .int set] σ Q := by
  refine M_X6_goPlain (M_X6_plain ?_)
  have fx : Fx [4024, 4026, 4027] 51 55 σ (si (si (si σ 4024 0) 4026 100) 4027 (-9)) := ((Fx.rf.si (by simp)).si (by simp)).si (by simp)
  have hR := h.fx fx (by simp) (by omega)
  have hlt : ∀ i, i < A.2.1.1.length → nI (ge A.2.1.1 i).2.1 < 100 := by
    intro i hi
    have e1 := g.2.1.2.2.2.2.2 i hi
    have e2 := g.2.1.2.2.1
    rw [Int32.lt_iff_toInt_lt, nIt (by omega), i100]
    omega
  refine R_go (th := 0) (m := 0) (f := A.2.1.1.length) (d := 100) (y := -9) (w := gi σ 4028) (ac := fun _ => (true, 0)) hR g (by omega) (by omega) (by decide) (fun i hi => absurd hi (by omega)) (Or.inl rfl) (Nat.le_refl _) (fun i hi => hlt i hi) (fun i h1 h2 => absurd h2 (by omega)) ⟨⟨fun z => absurd (by decide) z, rfl⟩, ⟨rfl, fun i hi => absurd hi (by omega)⟩, rfl, rfl⟩ (fun τ f2 _ h2 => ?_)
  obtain ⟨a1, a2⟩ := h2 (by decide) rfl
  exact hq τ ((fx.fr (by intro k hk; simp at hk; omega) (by omega) (by omega)).tr (f2.fr (by intro k hk; simp at hk; omega) (by omega) (by omega))) (hR.fx f2 (by simp) (by omega)) a1 a2
theorem R_origins {E : EV} {Q : Sg → Int32 → Prop} {σ : Sg} {A : Ab} {p t set : Int32} (h : RepM σ A) (g : Good A) (hq : ∀ τ, Fr 40 57 σ τ → RepM τ A → Q τ (S_origins A p t set)) : MetI E mi_X6_origins [.ref 40, .int p, .int t, .int set] σ Q := by
  have hP := g.1.1
  refine M_X6_origins (R_one h.1.1 hP ⟨fun r => ?_, fun r => R_thing ⟨fun r2 => ?_, fun r2 => ?_⟩⟩)
  · rw [bi_0] at r
    have := hq σ Fr.rf h
    rw [S_origins, if_neg (fun z => r z.1)] at this
    exact this
  · rw [bi_n0] at r r2
    obtain ⟨p', hp, rfl, ep⟩ := ge0 (x := p) r.1
    obtain ⟨t', ht, rfl, et⟩ := ge0 (x := t) r2.1
    refine R_plain h g (fun τ f hR _ hA => ?_)
    have := hq τ f hR
    rw [S_origins, if_pos ⟨r, r2⟩, cl hp, cl ht] at this
    rw [mul4, cl (by omega), (hA t' (by omega)).2.1 p' (by omega)]
    exact ⟨vpn (by omega) (by omega), this⟩
  · rw [bi_0] at r2
    have := hq σ Fr.rf h
    rw [S_origins, if_neg (fun z => r2 z.2)] at this
    exact this
theorem R_voice {E : EV} {Q : Sg → Int32 → Prop} {σ : Sg} {A : Ab} {p t set : Int32} (h : RepM σ A) (g : Good A) (hq : ∀ τ, Fr 40 57 σ τ → RepM τ A → Q τ (S_voice A p t set)) : MetI E mi_X6_voice [.ref 40, .int p, .int t, .int set] σ Q := by
  have hP := g.1.1
  refine M_X6_voice (R_one h.1.1 hP ⟨fun r => ?_, fun r => R_thing ⟨fun r2 => ?_, fun r2 => ?_⟩⟩)
  · rw [bi_0] at r
    have := hq σ Fr.rf h
    rw [S_voice, if_neg (fun z => r z.1)] at this
    exact this
  · rw [bi_n0] at r r2
    obtain ⟨p', hp, rfl, ep⟩ := ge0 (x := p) r.1
    obtain ⟨t', ht, rfl, et⟩ := ge0 (x := t) r2.1
    refine R_plain h g (fun τ f hR _ hA => ?_)
    have := hq τ f hR
    rw [S_voice, if_pos ⟨r, r2⟩, cl hp, cl ht] at this
    rw [mul4, cl (by omega), (hA t' (by omega)).2.2.1 p' (by omega)]
    exact ⟨vpn (by omega) (by omega), fun q => by rw [noneIf, if_neg q] at this; exact this, fun q => by rw [noneIf, if_pos q] at this; exact this⟩
  · rw [bi_0] at r2
    have := hq σ Fr.rf h
    rw [S_voice, if_neg (fun z => r2 z.2)] at this
    exact this
theorem R_lawX {E : EV} {Q : Sg → Int32 → Prop} {σ : Sg} {A : Ab} {t set w : Int32} (h : RepM σ A) (g : Good A) (hq : ∀ τ, Fr 40 57 σ τ → RepM τ A → Q τ (S_law A t set w)) : MetI E mi_X6_law [.ref 40, .int t, .int set, .int w] σ Q := by
  have bad : ¬ ((0 ≤ t.toInt ∧ t.toInt < 4) ∧ (0 ≤ w.toInt ∧ w.toInt ≤ 1)) → Q σ (-1) := fun z => by
    have := hq σ Fr.rf h
    rw [S_law, if_neg z] at this
    exact this
  refine M_X6_law (R_thing ⟨fun r => ?_, fun r => R_in ⟨fun r2 => ?_, fun r2 => ?_⟩⟩)
  · rw [bi_0] at r; exact bad (fun z => r z.1)
  · rw [bi_n0] at r r2
    have e1 : (1 : Int32).toInt = 1 := by decide
    have e0 : (0 : Int32).toInt = 0 := by decide
    rw [e1, e0] at r2
    obtain ⟨t', ht, rfl, et⟩ := ge0 (x := t) r.1
    refine R_plain h g (fun τ f hR _ hA => ?_)
    have := hq τ f hR
    rw [S_law, if_pos ⟨r, r2⟩, cl ht] at this
    rw [cl ht]
    refine ⟨fun q => ⟨vpn (by omega) (by omega), ?_⟩, fun q => ⟨vpn (by omega) (by omega), ?_⟩⟩
    · rcases (hA t' (by omega)).2.2.2 with z | z
      · rw [z.2.2.2]; rw [lawAns, if_pos z.1] at this; exact this
      · rw [z.2.2.2]; rw [lawAns, if_neg z.1, if_neg q] at this; exact this
    · rcases (hA t' (by omega)).2.2.2 with z | z
      · rw [z.2.2.1]; rw [lawAns, if_pos z.1] at this; exact this
      · rw [z.2.1]; rw [lawAns, if_neg z.1, if_pos q] at this; exact this
  · rw [bi_0] at r2
    have e1 : (1 : Int32).toInt = 1 := by decide
    have e0 : (0 : Int32).toInt = 0 := by decide
    rw [e1, e0] at r2
    exact bad (fun z => r2 z.2)
theorem R_place {E : EV} {Q : Sg → Int32 → Prop} {σ : Sg} {A : Ab} {p : Int32} (h : RepM σ A) (g : Good A) (hq : ∀ τ, Fr 40 57 σ τ → RepM τ A → Q τ (S_place A p)) : MetI E mi_X6_place [.ref 40, .int p] σ Q := by
  have hP := g.1.1
  refine M_X6_place (R_one h.1.1 hP ⟨fun r => ?_, fun r => ?_⟩)
  · rw [bi_n0] at r
    obtain ⟨p', hp, rfl, ep⟩ := ge0 (x := p) r.1
    refine R_plain h g (fun τ f hR _ hA => ⟨vpn (by omega) (by omega), ?_⟩)
    have := hq τ f hR
    rw [S_place, if_pos r, cl hp] at this
    rw [cl hp, (hA 0 (by omega)).1 p' (by omega)]
    exact this
  · rw [bi_0] at r
    have := hq σ Fr.rf h
    rw [S_place, if_neg r] at this
    exact this
theorem R_isLaw {E : EV} {Q : Sg → Int32 → Prop} {σ : Sg} {A : Ab} {t : Nat} {set : Int32} (h : RepM σ A) (g : Good A) (ht : t < 4) (hq : ∀ τ, Fr 40 57 σ τ → RepM τ A → Q τ (bi (isLawD A t set))) : MetI E mi_X6_isLaw [.ref 40, .int (nI t), .int set] σ Q := by
  refine M_X6_isLaw (R_plain h g (fun τ f hR _ hA => ⟨vpn (by omega) (by omega), ?_⟩))
  rw [cl (by omega)]
  rcases (hA t ht).2.2.2 with z | z
  · exact ⟨fun _ => q0 (hq τ f hR) (fun w => w z.1), fun q => absurd z.2.2.1 q⟩
  · exact ⟨fun q => absurd (z.2.1.symm.trans q) z.2.2.1, fun _ => q1 (hq τ f hR) z.1⟩
