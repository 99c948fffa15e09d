/-! ===== the reference: tries ahead of a day ===== -/
def sg (b : Bool) : Int32 := if b = true then 1 else -1
theorem sg_av : ∀ b, ∀ k, k < 8 → sg b * (nI k + 1) = av (b, k + 1) := by decide +kernel
theorem acN_n {d : Int32} {b : Bool} {m n : Nat} {S : SS} (hm : m < 2 ^ n) : ∀ k, n ≤ k → acN d b m k S = acN d b m n S
  | 0, h => by obtain rfl : n = 0 := by omega
               rfl
  | k + 1, h => by
    by_cases e : n = k + 1
    · subst e; rfl
    · have h2 : n ≤ k := by omega
      have hlt : m < 2 ^ k := Nat.lt_of_lt_of_le hm (Nat.pow_le_pow_right (by omega) h2)
      rw [acN, if_neg (by rw [Nat.div_eq_of_lt hlt]; decide)]
      exact acN_n hm k h2
theorem actN_cg {d : Int32} {ac bc : Nat → Bool × Nat} : ∀ (j k : Nat) (S : SS), (∀ i, k ≤ i → i < k + j → ac i = bc i) → actN d ac j k S = actN d bc j k S
  | 0, _, _, _ => rfl
  | j + 1, k, S, h => by
    rw [actN, actN, h k (by omega) (by omega)]
    exact actN_cg j (k + 1) _ (fun i h1 h2 => h i (by omega) (by omega))
theorem actN_snoc {d : Int32} {ac : Nat → Bool × Nat} : ∀ (j k : Nat) (S : SS), actN d ac (j + 1) k S = actOne d (ac (k + j)) (actN d ac j k S)
  | 0, _, _ => rfl
  | j + 1, k, S => by
    rw [actN, actN_snoc j (k + 1), show k + 1 + j = k + (j + 1) by omega]
    rfl
theorem day_99 {d : Nat} (h : d ≤ 99) : ¬ (99 : Int32) < nI d := by
  rw [Int32.lt_iff_toInt_lt, nIt (by omega), show (99 : Int32).toInt = 99 from by decide]; omega
theorem day_9 {d : Nat} (h : d < 2 ^ 31) : ¬ nI d = -9 := fun w => absurd (show (nI d).toInt = (-9 : Int32).toInt by rw [w]) (by rw [nIt h, iv_m9]; omega)
theorem R_goX {E : EV} {Q : Sg → Prop} {σ : Sg} {A : Ab} {th m d : Nat} {y w : Int32} {ac : Nat → Bool × Nat} (h : RepM σ A) (g : Good A) (ht : th < 4) (hm : m ≤ 8) (hd : d ≤ 99) (hac : ∀ i, i < m → (ac i).2 ≤ 8) (hy : okK A.1.length y) (hC : CfgM σ th (nI d) m ac y w) (hq : ∀ τ, Fx [4022, 4029] 51 55 σ τ → RepM τ A → gi τ 4029 = hadB (pre A 0 (fst A.2.1.1 d) th).2.1 8 → AllM τ A.1.length (goT A 0 th (nI d) m ac y w (fst A.2.1.1 d)) → Q τ) : MetV E mi_X6_go [.ref 40, .int 0] σ Q := by
  have b2 := g.2.1.2.2.1
  refine R_go h g ht hm (day_9 (by omega)) hac hy (@fst_le A.2.1.1 d) (fun i hi => ?_) (fun i h1 h2 => ?_) hC (fun τ f hx _ => ?_)
  · have b1 := g.2.1.2.2.2.2.2 i (by have := @fst_le A.2.1.1 d; omega)
    rw [Int32.lt_iff_toInt_lt, nIt (by omega), nIt (by omega)]
    have := fst_lt hi
    omega
  · have b1 := g.2.1.2.2.2.2.2 i h2
    rw [Int32.lt_iff_toInt_lt, nIt (by omega), nIt (by omega)]
    have a1 := fst_at (l := A.2.1.1) (d := d) (by omega)
    have a2 := g.2.1.2.2.2.2.1 _ i h1 h2
    omega
  · obtain ⟨a1, a2⟩ := hx (Or.inr (day_99 hd))
    exact hq τ f (h.fx f (by simp) (by omega)) a1 a2
theorem R_lawBy {E : EV} {Q : Sg → Int32 → Prop} {σ : Sg} {A : Ab} {t d m : Nat} {b : Bool} (h : RepM σ A) (g : Good A) (ht : t < 4) (hd : d ≤ 99) (hm : m < 2 ^ A.1.length) (hq : ∀ τ, Fr 40 57 σ τ → RepM τ A → gi τ 4029 = hadB (pre A 0 (fst A.2.1.1 d) t).2.1 8 → Q τ (bi (lawD (lawIf A t d b m)))) : MetI E mi_X6_isLawBy [.ref 40, .int (nI t), .int (nI d), .int (nI m), .int (sg b)] σ Q := by
  have hP := g.1.1
  have hm8 : m < 256 := by
    have : 2 ^ A.1.length ≤ 2 ^ 8 := Nat.pow_le_pow_right (by omega) hP
    omega
  have fr4 : ∀ τ, Fx [4024, 4025, 4026, 4027] 56 56 σ τ → Fr 40 57 σ τ := fun τ f => f.fr (by intro k hk; simp at hk; omega) (by omega) (by omega)
  have go : ∀ (j k : Nat) (τ : Sg) (c : Nat) (ac : Nat → Bool × Nat), k + j = 8 → Fx [4024, 4025, 4026, 4027] 56 56 σ τ → CfgM τ t (nI d) c ac (-9) (gi σ 4028) → c ≤ k → (∀ i, i < c → (ac i).2 ≤ 8) → (∀ S, actN (nI d) ac c 0 S = acN (nI d) b m k S) → K_X6_isLawBy_17 E Q τ (nI t) (nI d) (nI m) (sg b) (nI k) := by
    intro j
    induction j with
    | zero =>
      intro k τ c ac hk f hC hc hac hN
      obtain rfl : k = 8 := by omega
      have hR := h.fxT f (by simp) (by omega) ⟨t, ht, hC.1.1 (day_99 hd)⟩
      refine B_X6_isLawBy_17 ⟨fun _ => R_goX hR g ht (by omega) hd hac (Or.inl rfl) hC (fun υ f2 hR2 he hA => ⟨vpn (by omega) (by omega), ?_⟩), fun z => absurd (by decide) z⟩
      have hres := hq υ ((fr4 τ f).tr (f2.fr (by intro k hk; simp at hk; omega) (by omega) (by omega))) hR2 he
      have e : goT A 0 t (nI d) c ac (-9) (gi σ 4028) (fst A.2.1.1 d) t = lawIf A t d b m := by
        rw [goT, stayS, if_pos rfl, if_pos rfl, hN, acN_n hm 8 hP]; rfl
      have hs := (hA t ht).2.2.2
      rw [e] at hs
      rw [cl (by omega)]
      rcases hs with z | z
      · exact ⟨fun _ => q0 hres (fun w => w z.1), fun q => absurd z.2.2.1 q⟩
      · exact ⟨fun q => absurd (z.2.1.symm.trans q) z.2.2.1, fun _ => q1 hres z.1⟩
    | succ j ih =>
      intro k τ c ac hk f hC hc hac hN
      refine B_X6_isLawBy_17 ⟨fun z => absurd z (nI_ge (a := k) (b := 8) (by omega) (by omega)), fun _ => ?_⟩
      rw [sh_tab m hm8 k (by omega), sg_av b k (by omega), hC.2.1.1, nI_1, nI_1]
      refine ⟨fun z => ?_, fun z => ⟨vpn (by omega) (by omega), ?_⟩⟩
      · have z : ¬ m / 2 ^ k % 2 = 1 := fun w => z (by rw [w]; rfl)
        refine ih (k + 1) τ c ac (by omega) f hC (by omega) hac (fun S => ?_)
        rw [acN, if_neg z]; exact hN S
      · have z : m / 2 ^ k % 2 = 1 := inj_nI (by omega) (by omega) z
        rw [cl (by omega)]
        refine ih (k + 1) _ (c + 1) (fun i => if i = c then (b, k + 1) else ac i) (by omega) ((f.sm (by omega) (by omega)).si (by simp)) ⟨⟨hC.1.1, hC.1.2⟩, ⟨gi_si_s, fun i hi => ?_⟩, hC.2.2.1, hC.2.2.2⟩ (by omega) (fun i hi => ?_) (fun S => ?_)
        · show upd (gm τ 56) c (av (b, k + 1)) i = av (if i = c then (b, k + 1) else ac i)
          by_cases e : i = c
          · subst e; rw [upd_s, if_pos rfl]
          · rw [upd_n e, if_neg e]; exact hC.2.1.2 i (by omega)
        · show (if i = c then (b, k + 1) else ac i).2 ≤ 8
          by_cases e : i = c
          · rw [if_pos e]; exact (by omega : k + 1 ≤ 8)
          · rw [if_neg e]; exact hac i (by omega)
        · rw [actN_snoc, acN, if_pos z, ← hN S, Nat.zero_add]
          rw [if_pos rfl]
          rw [actN_cg c 0 S (fun i _ h2 => if_neg (by omega))]
  refine M_X6_isLawBy (M_X6_plain ?_)
  exact go 8 0 _ 0 (fun _ => (true, 0)) (by omega) (((((Fx.rf.si (by simp)).si (by simp)).si (by simp)).si (by simp)).si (by simp)) ⟨⟨fun _ => rfl, rfl⟩, ⟨rfl, fun i hi => absurd hi (by omega)⟩, rfl, rfl⟩ (by omega) (fun i hi => absurd hi (by omega)) (fun S => rfl)
theorem R_fewestBy {E : EV} {Q : Sg → Int32 → Prop} {σ : Sg} {A : Ab} {t d : Nat} {b : Bool} (h : RepM σ A) (g : Good A) (ht : t < 4) (hd : d ≤ 99) (hq : ∀ τ, Fr 40 57 σ τ → RepM τ A → Q τ (fewR (few (chP A t d b) (2 ^ A.1.length)))) : MetI E mi_X6_fewestBy [.ref 40, .int (nI t), .int (nI d), .int (sg b), .int (bI b)] σ Q := by
  have hP := g.1.1
  have hp : 2 ^ A.1.length ≤ 256 := by
    have : 2 ^ A.1.length ≤ 2 ^ 8 := Nat.pow_le_pow_right (by omega) hP
    exact this
  have go : ∀ (j k : Nat) (τ : Sg), k + j = 2 ^ A.1.length → Fr 40 57 σ τ → RepM τ A → K_X6_fewestBy_7 E Q τ (nI t) (nI d) (sg b) (bI b) (fewR (few (chP A t d b) k)) (nI k) := by
    intro j
    induction j with
    | zero =>
      intro k τ hk f hR
      obtain rfl : k = 2 ^ A.1.length := by omega
      refine B_X6_fewestBy_7 ?_
      rw [hR.1.1, shl_1 _ (by omega)]
      exact ⟨fun _ => hq τ f hR, fun q => absurd (nI_le (Nat.le_refl _) (by omega)) q⟩
    | succ j ih =>
      intro k τ hk f hR
      have next : ∀ υ, Fr 40 57 σ υ → RepM υ A → ∀ v, v = fewR (few (chP A t d b) (k + 1)) → K_X6_fewestBy_7 E Q υ (nI t) (nI d) (sg b) (bI b) v (nI k + 1) := fun υ f2 hR2 v hv => by
        rw [nI_1, hv]; exact ih (k + 1) υ (by omega) f2 hR2
      refine B_X6_fewestBy_7 ?_
      rw [hR.1.1, shl_1 _ (by omega)]
      refine ⟨fun q => absurd q (nI_ge (by omega) (by omega)), fun _ => ⟨fun q => ?_, fun q => ?_⟩⟩
      all_goals rw [fewR_9 (fun b hb => by have := few_lt hb; omega)] at q
      · refine R_lawBy (b := b) hR g ht hd (by omega) (fun υ f2 hR2 _ => ⟨fun r => next υ (f.tr f2) hR2 _ ?_, fun r => next υ (f.tr f2) hR2 _ ?_⟩)
        all_goals rw [chP_iff] at r
        · rw [few_none q, if_neg r, q]
        · rw [few_none q, if_pos r]; rfl
      · obtain ⟨c, hc⟩ : ∃ c, few (chP A t d b) k = some c := by
          cases hf : few (chP A t d b) k with
          | none => exact absurd hf q
          | some c => exact ⟨c, rfl⟩
        have hcl := few_lt hc
        rw [hc]
        show MetI E mi_X6_bitsIn _ _ (fun τ10 r11 => MetI E mi_X6_bitsIn [.int (nI c)] _ _)
        refine R_bits (by omega) (R_bits (by omega) ⟨fun r => next τ f hR _ ?_, fun r => R_lawBy (b := b) hR g ht hd (by omega) (fun υ f2 hR2 _ => ⟨fun r2 => next υ (f.tr f2) hR2 _ ?_, fun r2 => next υ (f.tr f2) hR2 _ ?_⟩)⟩)
        · have := (nI_leI (by have := @bcnt_le c; omega) (by have := @bcnt_le k; omega)).mp r
          rw [few_some hc, if_neg (fun z => by omega)]
        · rw [chP_iff] at r2
          rw [few_some hc, if_neg (fun z => r2 z.2)]
        · rw [chP_iff] at r2
          have hlt : bcnt k < bcnt c := by
            rcases Nat.lt_or_ge (bcnt k) (bcnt c) with z | z
            · exact z
            · exact absurd (nI_le z (by have := @bcnt_le k; omega)) r
          rw [few_some hc, if_pos ⟨hlt, r2⟩]; rfl
  exact M_X6_fewestBy (go (2 ^ A.1.length) 0 σ (by omega) Fr.rf h)
theorem i99 : (99 : Int32).toInt = 99 := by decide
theorem R_hints {E : EV} {Q : Sg → Int32 → Prop} {σ : Sg} {A : Ab} {t d : Int32} (h : RepM σ A) (g : Good A) (hq : ∀ τ, Fr 40 57 σ τ → RepM τ A → Q τ (S_chosen A true t d)) : MetI E mi_X6_hints [.ref 40, .int t, .int d] σ Q := by
  refine M_X6_hints (R_thing ⟨fun r => ?_, fun r => R_in ⟨fun r2 => ?_, fun r2 => ?_⟩⟩)
  · rw [bi_0] at r
    have := hq σ Fr.rf h
    rw [S_chosen, if_neg (fun z => r z.1)] at this
    exact this
  · rw [bi_0, iv_0, i99] at r2
    have := hq σ Fr.rf h
    rw [S_chosen, if_neg (fun z => r2 z.2)] at this
    exact this
  · rw [bi_n0] at r r2
    rw [iv_0, i99] at r2
    obtain ⟨t', ht, rfl, et⟩ := ge0 (x := t) r.1
    obtain ⟨d', hd, rfl, ed⟩ := ge0 (x := d) r2.1
    refine R_fewestBy (b := true) h g (by omega) (by omega) (fun τ f hR => ?_)
    have := hq τ f hR
    rw [S_chosen, if_pos ⟨r, r2⟩, cl ht, cl hd] at this
    exact this
theorem R_hinder {E : EV} {Q : Sg → Int32 → Prop} {σ : Sg} {A : Ab} {t d : Int32} (h : RepM σ A) (g : Good A) (hq : ∀ τ, Fr 40 57 σ τ → RepM τ A → Q τ (S_chosen A false t d)) : MetI E mi_X6_hinder [.ref 40, .int t, .int d] σ Q := by
  refine M_X6_hinder (R_thing ⟨fun r => ?_, fun r => R_in ⟨fun r2 => ?_, fun r2 => ?_⟩⟩)
  · rw [bi_0] at r
    have := hq σ Fr.rf h
    rw [S_chosen, if_neg (fun z => r z.1)] at this
    exact this
  · rw [bi_0, iv_0, i99] at r2
    have := hq σ Fr.rf h
    rw [S_chosen, if_neg (fun z => r2 z.2)] at this
    exact this
  · rw [bi_n0] at r r2
    rw [iv_0, i99] at r2
    obtain ⟨t', ht, rfl, et⟩ := ge0 (x := t) r.1
    obtain ⟨d', hd, rfl, ed⟩ := ge0 (x := d) r2.1
    refine R_fewestBy (b := false) h g (by omega) (by omega) (fun τ f hR => ?_)
    have := hq τ f hR
    rw [S_chosen, if_pos ⟨r, r2⟩, cl ht, cl hd] at this
    exact this
