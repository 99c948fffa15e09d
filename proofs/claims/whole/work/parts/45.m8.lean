/-! ===== the reference: answers about all stories ===== -/
def bsum (m : Nat) : Nat → Nat
  | 0 => 0
  | k + 1 => bsum m k + m / 2 ^ k % 2
theorem bsum_8 {m : Nat} : bsum m 8 = bcnt m := by
  simp only [bsum, bcnt, Nat.zero_add, Nat.pow_zero, Nat.div_one, Nat.reducePow]
theorem sh_tab : ∀ m, m < 256 → ∀ k, k < 8 → (nI m >>> (nI k &&& 31)) &&& 1 = nI (m / 2 ^ k % 2) := by decide +kernel
theorem R_bits {E : EV} {Q : Sg → Int32 → Prop} {σ : Sg} {m : Nat} (hm : m < 256) (hq : Q σ (nI (bcnt m))) : MetI E mi_X6_bitsIn [.int (nI m)] σ Q := by
  have go : ∀ (j k : Nat), k + j = 8 → K_X6_bitsIn_4 E Q σ (nI m) (nI (bsum m k)) (nI k) := by
    intro j
    induction j with
    | zero =>
      intro k hk
      obtain rfl : k = 8 := by omega
      exact B_X6_bitsIn_4 ⟨fun _ => by rw [bsum_8]; exact hq, fun z => absurd (by decide) z⟩
    | succ j ih =>
      intro k hk
      refine B_X6_bitsIn_4 ⟨fun z => absurd z (nI_ge (a := k) (b := 8) (by omega) (by omega)), fun _ => ?_⟩
      rw [sh_tab m hm k (by omega), nI_add, nI_1]
      exact ih (k + 1) (by omega)
  exact M_X6_bitsIn (go 8 0 rfl)
theorem few_none {P : Nat → Bool} {k : Nat} (h : few P k = none) : few P (k + 1) = if P k = true then some k else none := by rw [few, h]
theorem few_some {P : Nat → Bool} {k b : Nat} (h : few P k = some b) : few P (k + 1) = if bcnt k < bcnt b ∧ P k = true then some k else some b := by rw [few, h]
theorem fewR_9 {o : Option Nat} (h : ∀ b, o = some b → b < 2 ^ 31) : fewR o = -9 ↔ o = none := by
  cases o with
  | none => exact ⟨fun _ => rfl, fun _ => rfl⟩
  | some b =>
    refine ⟨fun z => absurd (show (nI b).toInt = (-9 : Int32).toInt by rw [show nI b = -9 from z]) ?_, fun z => nomatch z⟩
    rw [nIt (h b rfl), iv_m9]; omega
theorem R_fallsBy {E : EV} {Q : Sg → Int32 → Prop} {σ : Sg} {A : Ab} {t : Nat} (h : RepM σ A) (g : Good A) (ht : t < 4) (hq : ∀ τ, Fr 40 57 σ τ → RepM τ A → Q τ (fewR (few (fallP A t) (2 ^ mc A.2.1.1)))) : MetI E mi_X6_fallsBy [.ref 40, .int (nI t)] σ Q := by
  have hM := g.2.1.2.1
  have hL := g.2.1.1
  have ho : ∀ k, k < A.2.1.1.length → (ge A.2.1.1 k).1 < 2 ^ 31 := fun k hk => by have := (ev_ge g.2.1 hk).1; omega
  have hp : 2 ^ mc A.2.1.1 ≤ 64 := by
    have : 2 ^ mc A.2.1.1 ≤ 2 ^ 6 := Nat.pow_le_pow_right (by omega) hM
    exact this
  have go : ∀ (j k : Nat) (τ : Sg), k + j = 2 ^ mc A.2.1.1 → Fr 40 57 σ τ → RepM τ A → K_X6_fallsBy_5 E Q τ (nI t) (fewR (few (fallP A t) k)) (nI k) := by
    intro j
    induction j with
    | zero =>
      intro k τ hk f hR
      obtain rfl : k = 2 ^ mc A.2.1.1 := by omega
      refine B_X6_fallsBy_5 (R_maybes (r := 0) hR.2.1 (by omega) hL ho ?_)
      rw [shl_1 _ (by omega)]
      exact ⟨fun _ => hq τ f hR, fun q => absurd (nI_le (Nat.le_refl _) (by omega)) q⟩
    | succ j ih =>
      intro k τ hk f hR
      have next : ∀ υ, Fr 40 57 σ υ → RepM υ A → ∀ v, v = fewR (few (fallP A t) (k + 1)) → K_X6_fallsBy_5 E Q υ (nI t) v (nI k + 1) := fun υ f2 hR2 v hv => by
        rw [nI_1, hv]; exact ih (k + 1) υ (by omega) f2 hR2
      refine B_X6_fallsBy_5 (R_maybes (r := 0) hR.2.1 (by omega) hL ho ?_)
      rw [shl_1 _ (by omega)]
      refine ⟨fun q => absurd q (nI_ge (by omega) (by omega)), fun _ => ⟨fun q => ?_, fun q => ?_⟩⟩
      all_goals rw [fewR_9 (fun b hb => by have := few_lt hb; omega)] at q
      · refine R_isLaw hR g ht (fun υ f2 hR2 => ⟨fun r => next υ (f.tr f2) hR2 _ ?_, fun r => next υ (f.tr f2) hR2 _ ?_⟩)
        · rw [bi_n0] at r
          rw [few_none q, if_neg (fun z => by rw [fallP, Bool.not_eq_true', decide_eq_false_iff_not] at z; exact z r), q]
        · rw [bi_0] at r
          rw [few_none q, if_pos (by rw [fallP, Bool.not_eq_true', decide_eq_false_iff_not]; exact r)]; rfl
      · obtain ⟨b, hb⟩ : ∃ b, few (fallP A t) k = some b := by
          cases hf : few (fallP A t) k with
          | none => exact absurd hf q
          | some b => exact ⟨b, rfl⟩
        have hbl := few_lt hb
        rw [hb]
        show MetI E mi_X6_bitsIn _ _ (fun τ10 r11 => MetI E mi_X6_bitsIn [.int (nI b)] _ _)
        refine R_bits (by omega) (R_bits (by omega) ⟨fun r => next τ f hR _ ?_, fun r => R_isLaw hR g ht (fun υ f2 hR2 => ⟨fun r2 => next υ (f.tr f2) hR2 _ ?_, fun r2 => next υ (f.tr f2) hR2 _ ?_⟩)⟩)
        · have := (nI_leI (by have := @bcnt_le b; omega) (by have := @bcnt_le k; omega)).mp r
          rw [few_some hb, if_neg (fun z => by omega)]
        · rw [bi_n0] at r2
          rw [few_some hb, if_neg (fun z => by have z := z.2; rw [fallP, Bool.not_eq_true', decide_eq_false_iff_not] at z; exact z r2)]
        · rw [bi_0] at r2
          have hlt : bcnt k < bcnt b := by
            rcases Nat.lt_or_ge (bcnt k) (bcnt b) with z | z
            · exact z
            · exact absurd (nI_le z (by have := @bcnt_le k; omega)) r
          rw [few_some hb, if_pos ⟨hlt, by rw [fallP, Bool.not_eq_true', decide_eq_false_iff_not]; exact r2⟩]; rfl
  exact M_X6_fallsBy (go (2 ^ mc A.2.1.1) 0 σ (by omega) Fr.rf h)
theorem R_falls {E : EV} {Q : Sg → Int32 → Prop} {σ : Sg} {A : Ab} {t : Int32} (h : RepM σ A) (g : Good A) (hq : ∀ τ, Fr 40 57 σ τ → RepM τ A → Q τ (S_falls A t)) : MetI E mi_X6_falls [.ref 40, .int t] σ Q := by
  refine M_X6_falls (R_thing ⟨fun r => ?_, fun r => ?_⟩)
  · rw [bi_0] at r
    have := hq σ Fr.rf h
    rw [S_falls, if_neg r] at this
    exact this
  · rw [bi_n0] at r
    obtain ⟨t', ht, rfl, et⟩ := ge0 (x := t) r.1
    refine R_fallsBy h g (by omega) (fun τ f hR => ?_)
    have := hq τ f hR
    rw [S_falls, if_pos r, cl ht] at this
    exact this
theorem R_stands {E : EV} {Q : Sg → Int32 → Prop} {σ : Sg} {A : Ab} {t : Int32} (h : RepM σ A) (g : Good A) (hq : ∀ τ, Fr 40 57 σ τ → RepM τ A → Q τ (S_stands A t)) : MetI E mi_X6_stands [.ref 40, .int t] σ Q := by
  refine M_X6_stands (R_thing ⟨fun r => ?_, fun r => ?_⟩)
  · rw [bi_0] at r
    have := hq σ Fr.rf h
    rw [S_stands, if_neg r] at this
    exact this
  · rw [bi_n0] at r
    obtain ⟨t', ht, rfl, et⟩ := ge0 (x := t) r.1
    refine R_fallsBy h g (by omega) (fun τ f hR => ?_)
    have := hq τ f hR
    rw [S_stands, if_pos r, cl ht] at this
    exact ⟨fun q => q0 this q, fun q => q1 this q⟩
theorem R_alone {E : EV} {Q : Sg → Int32 → Prop} {σ : Sg} {A : Ab} {t : Int32} (h : RepM σ A) (g : Good A) (hq : ∀ τ, Fr 40 57 σ τ → RepM τ A → Q τ (S_alone A t)) : MetI E mi_X6_alone [.ref 40, .int t] σ Q := by
  have hM := g.2.1.2.1
  have hL := g.2.1.1
  have ho : ∀ k, k < A.2.1.1.length → (ge A.2.1.1 k).1 < 2 ^ 31 := fun k hk => by have := (ev_ge g.2.1 hk).1; omega
  refine M_X6_alone (R_thing ⟨fun r => ?_, fun r => ?_⟩)
  · rw [bi_n0] at r
    obtain ⟨t', ht, rfl, et⟩ := ge0 (x := t) r.1
    have hs : S_alone A (nI t') = if isLawD A t' 0 then aloneB A t' (mc A.2.1.1) else 0 := by rw [S_alone, if_pos r, cl ht]
    have go : ∀ (j k : Nat) (τ : Sg), k + j = mc A.2.1.1 → (isLawD A t' 0 ∨ k = 0) → Fr 40 57 σ τ → RepM τ A → K_X6_alone_13 E Q τ (nI t') (aloneB A t' k) (nI k) := by
      intro j
      induction j with
      | zero =>
        intro k τ hk h0 f hR
        obtain rfl : k = mc A.2.1.1 := by omega
        refine B_X6_alone_13 (R_maybes (r := 0) hR.2.1 (by omega) hL ho ⟨fun _ => ?_, fun q => absurd (nI_le (Nat.le_refl _) (by omega)) q⟩)
        have := hq τ f hR
        rw [hs] at this
        by_cases hl : isLawD A t' 0
        · rw [if_pos hl] at this; exact this
        · rw [if_neg hl] at this
          rw [h0.resolve_left hl]; exact this
      | succ j ih =>
        intro k τ hk h0 f hR
        refine B_X6_alone_13 (R_maybes (r := 0) hR.2.1 (by omega) hL ho ⟨fun q => absurd q (nI_ge (by omega) (by omega)), fun _ => R_isLaw hR g (by omega) (fun υ f2 hR2 => ⟨fun q => ?_, fun q => R_isLaw hR2 g (by omega) (fun φ f3 hR3 => ⟨fun q2 => ?_, fun q2 => ?_⟩)⟩)⟩)
        · rw [bi_0] at q
          have := hq υ (f.tr f2) hR2
          rw [hs, if_neg q] at this
          rw [h0.resolve_left q]; exact this
        all_goals rw [bi_n0] at q
        · rw [bi_0] at q2
          have q2 : ¬ isLawD A t' (one k) := q2
          have := ih (k + 1) φ (by omega) (Or.inl q) ((f.tr f2).tr f3) hR3
          rw [aloneB, if_neg q2] at this
          rw [nI_1]; exact this
        · rw [bi_n0] at q2
          have q2 : isLawD A t' (one k) := q2
          have := ih (k + 1) φ (by omega) (Or.inl q) ((f.tr f2).tr f3) hR3
          rw [aloneB, if_pos q2] at this
          rw [nI_1, Int32.or_zero]; exact this
    exact go (mc A.2.1.1) 0 σ (by omega) (Or.inr rfl) Fr.rf h
  · rw [bi_0] at r
    have := hq σ Fr.rf h
    rw [S_alone, if_neg r] at this
    exact this
theorem emG_emp {A : Ab} : ∀ k, emG A 0 k = empM A k
  | 0 => rfl
  | k + 1 => by
    rw [emG, empM, emG_emp k, emO]
    have hc : ∀ t, carr A t k ↔ ¬ (pre A 0 k t).2.1 (ge A.2.1.1 k).2.2.1 = 0 := fun t => Iff.rfl
    by_cases h : (ge A.2.1.1 k).1 = 1 ∧ (¬ carr A 0 k ∧ ¬ carr A 1 k ∧ ¬ carr A 2 k ∧ ¬ carr A 3 k)
    · have hn : ¬ anyB (pre A 0 k) (ge A.2.1.1 k).2.2.1 4 = true := fun z => by
        obtain ⟨t, ht, hz⟩ := (anyB_iff 4).mp z
        have hz : carr A t k := hz
        rcases (show t = 0 ∨ t = 1 ∨ t = 2 ∨ t = 3 by omega) with rfl | rfl | rfl | rfl
        · exact h.2.1 hz
        · exact h.2.2.1 hz
        · exact h.2.2.2.1 hz
        · exact h.2.2.2.2 hz
      rw [if_pos h, if_pos ⟨h.1, hn⟩]
    · have hn : ¬ ((ge A.2.1.1 k).1 = 1 ∧ ¬ anyB (pre A 0 k) (ge A.2.1.1 k).2.2.1 4 = true) := fun z => by
        have z2 := fun w => z.2 ((anyB_iff 4).mpr w)
        exact h ⟨z.1, fun w => z2 ⟨0, by omega, w⟩, fun w => z2 ⟨1, by omega, w⟩, fun w => z2 ⟨2, by omega, w⟩, fun w => z2 ⟨3, by omega, w⟩⟩
      rw [if_neg h, if_neg hn, Int32.or_zero]
theorem R_empty {E : EV} {Q : Sg → Int32 → Prop} {σ : Sg} {A : Ab} (h : RepM σ A) (g : Good A) (hq : ∀ τ, Fr 40 57 σ τ → RepM τ A → Q τ (S_empty A)) : MetI E mi_X6_empty [.ref 40] σ Q := by
  refine M_X6_empty (R_plain h g (fun τ f hR he _ => ?_))
  rw [he, emG_emp]
  exact hq τ f hR
theorem RepM.trM {σ : Sg} {A : Ab} {x : Int64} (h : RepM σ A) : RepM (sl σ 4000 x) (withTr A x) := by
  obtain ⟨h1, h2, h3, h4, h5, h6⟩ := h
  have im : ∀ i u, ImM σ i u → ImM (sl σ 4000 x) i u := by
    intro i u hu
    cases u with
    | none => exact hu
    | some u => exact hu
  exact ⟨h1, h2, h3, im _ _ h4, im _ _ h5, by rw [gl_sl, if_pos rfl]; rfl, h6.2⟩
theorem R_mark {E : EV} {Q : Sg → Int32 → Prop} {σ : Sg} {A : Ab} {k p t : Int32} (h : RepM σ A) (g : Good A) (hq : ∀ τ, Fr 40 57 σ τ → RepM τ (S_mark A k p t).2 → Q τ (S_mark A k p t).1) : MetI E mi_X6_mark [.ref 40, .int k, .int p, .int t] σ Q := by
  have hP := g.1.1
  have e0 : (0 : Int32).toInt = 0 := by decide
  have e5 : (5 : Int32).toInt = 5 := by decide
  have bad : ¬ markOk A k p t → Q σ (-1000000) := fun z => by
    have := hq σ Fr.rf
    rw [S_mark, if_neg z] at this
    exact this h
  refine M_X6_mark (R_in ⟨fun q => ?_, fun q => R_one h.1.1 hP ⟨fun r => ?_, fun r => R_thing ⟨fun r2 => ?_, fun r2 => ?_⟩⟩⟩)
  · rw [bi_0, e0, e5] at q; exact bad (fun z => q z.1)
  · rw [bi_0] at r; exact bad (fun z => r z.2.1)
  · rw [bi_n0] at r r2 q
    rw [e0, e5] at q
    have ok : markOk A k p t := ⟨q, r, r2⟩
    obtain ⟨p', hp, rfl, ep⟩ := ge0 (x := p) r.1
    obtain ⟨t', ht, rfl, et⟩ := ge0 (x := t) r2.1
    refine R_plain h g (fun τ f hR _ hA => ?_)
    obtain ⟨m, hm, em⟩ := Ms_tale (t := t') (set := 0) g p' (by omega)
    have e52 : gm τ 52 (4 * p' + t') = nI m := ((hA t' (by omega)).2.1 p' (by omega)).trans em
    have e51 : gm τ 51 p' = (tale A t' 0).1 p' := (hA t' (by omega)).1 p' (by omega)
    have e44 : gm τ 44 0 = nI A.2.1.1.length := hR.2.1.1
    have e40 : gl τ 4000 = A.2.2.2.2.2 := hR.2.2.2.2.2.1
    rw [mul4, cl (n := 4 * p' + t') (by omega), e52]
    refine ⟨vpn (by omega) (by omega), R_bits hm ?_⟩
    have fin : ∀ (x : Int64) (v : Int32), x = A.2.2.2.2.2 + markInc k.toInt → v = markVal k.toInt (nI (bcnt m)) (nI p') (nI t') ((tale A t' 0).1 p') (nI A.2.1.1.length) → Q (sl τ 4000 x) v := by
      intro x v hx hv
      have := hq (sl τ 4000 x) (f.sl (by omega) (by omega))
      rw [S_mark, if_pos ok, cl hp, cl ht, em, cl (by omega), ← hx, ← hv] at this
      exact this hR.trM
    rw [e40, e44]
    refine ⟨fun z => fin _ _ ?_ ?_, fun z => fin _ _ ?_ ?_, fun z => fin _ _ ?_ ?_, fun z => fin _ _ ?_ ?_, fun z => fin _ _ ?_ ?_, fun z => ⟨vpn (by omega) (by omega), fin _ _ ?_ ?_⟩⟩
    · rw [markInc, if_neg (by omega), if_neg (by omega), if_neg (by omega), if_neg (by omega), if_neg (by omega)]
    · rw [markVal, if_neg (by omega), if_neg (by omega), if_neg (by omega), if_neg (by omega), if_neg (by omega)]
    · rw [markInc, if_pos (by omega)]
    · rw [markVal, if_pos (by omega)]
    · rw [markInc, if_neg (by omega), if_pos (by omega)]
    · rw [markVal, if_neg (by omega), if_pos (by omega), Int32.mul_comm]
    · rw [markInc, if_neg (by omega), if_neg (by omega), if_pos (by omega)]
    · rw [markVal, if_neg (by omega), if_neg (by omega), if_pos (by omega)]
    · rw [markInc, if_neg (by omega), if_neg (by omega), if_neg (by omega), if_pos (by omega)]
    · rw [markVal, if_neg (by omega), if_neg (by omega), if_neg (by omega), if_pos (by omega), Int32.mul_comm]
    · rw [markInc, if_neg (by omega), if_neg (by omega), if_neg (by omega), if_neg (by omega), if_pos (by omega)]
    · rw [markVal, if_neg (by omega), if_neg (by omega), if_neg (by omega), if_neg (by omega), if_pos (by omega), cl hp, e51]
  · rw [bi_0] at r2; exact bad (fun z => r2 z.2.2)
