/-! ===== keeping to a place ===== -/
def kept (A : Ab) (p d w t : Nat) : SS := runS A.1.length t (nI p) 0 A.2.1.1 (A.2.1.1.length - fst A.2.1.1 d) (fst A.2.1.1 d) (upd (pre A 0 (fst A.2.1.1 d) t).1 p (nI w), (pre A 0 (fst A.2.1.1 d) t).2)
def hadC (A : Ab) (p d w : Nat) : Nat → Nat
  | 0 => 0
  | k + 1 => if (kept A p d w k).2.1 p = 0 then hadC A p d w k else hadC A p d w k + 1
theorem hadC_le {A : Ab} {p d w : Nat} : ∀ k, hadC A p d w k ≤ k
  | 0 => Nat.le_refl 0
  | k + 1 => by
    have := @hadC_le A p d w k
    rw [hadC]; split <;> omega
/-- the best place of the first k and how many things are had there -/
def kB (A : Ab) (p d i : Nat) : Nat → Nat × Nat
  | 0 => (0, i)
  | k + 1 => if hadC A p d k 4 < (kB A p d i k).2 then (k, hadC A p d k 4) else kB A p d i k
theorem kB_le {A : Ab} {p d i : Nat} : ∀ k, (kB A p d i k).1 ≤ k ∧ (kB A p d i k).2 ≤ i + 4
  | 0 => ⟨Nat.le_refl 0, Nat.le_add_right i 4⟩
  | k + 1 => by
    have h1 := @kB_le A p d i k
    have h2 := @hadC_le A p d k 4
    rw [kB]
    split
    · exact ⟨Nat.le_succ k, Nat.le_trans h2 (by omega)⟩
    · exact ⟨by omega, h1.2⟩
theorem kB_eq {A : Ab} {p d : Nat} : ∀ k, kB A p d 9 (k + 1) = kB A p d 5 (k + 1)
  | 0 => by
    have h2 := @hadC_le A p d 0 4
    show (if hadC A p d 0 4 < 9 then (0, hadC A p d 0 4) else (0, 9)) = if hadC A p d 0 4 < 5 then (0, hadC A p d 0 4) else (0, 5)
    rw [if_pos (by omega), if_pos (by omega)]
  | k + 1 => by
    rw [kB, kB_eq k]
    rfl
def S_keepAt (A : Ab) (p d : Int32) : Int32 := if (0 ≤ p.toInt ∧ p.toInt < (A.1.length : Int)) ∧ (0 ≤ d.toInt ∧ d.toInt ≤ 99) then nI (kB A p.toNatClampNeg d.toNatClampNeg 5 4).1 else -1
theorem C_thingsHad {E : EV} {Q : Sg → Int32 → Prop} {σ : Sg} {A : Ab} {p d w : Nat} (h : RepC σ A) (g : Good A) (hp : p < A.1.length) (hd : d ≤ 99) (hw : w < 4) (hq : ∀ τ, Fr 36 39 σ τ → Q τ (nI (hadC A p d w 4))) : MetI E mi_X5_thingsHadAt [.ref 0, .int (nI p), .int (nI d), .int (nI w)] σ Q := by
  have hP := g.1.1
  have hf := @fst_le A.2.1.1 d
  have ho : ∀ k, k < A.2.1.1.length → okE A.1.length (ge A.2.1.1 k) := fun k hk => ev_ge g.2.1 hk
  have go : ∀ (j k : Nat) (τ : Sg), k + j = 4 → Fr 36 39 σ τ → K_X5_thingsHadAt_16 E Q τ (nI p) (nI d) (nI w) (nI (hadC A p d w k)) (nI (fst A.2.1.1 d)) (nI k) := by
    intro j
    induction j with
    | zero =>
      intro k τ hk f
      obtain rfl : k = 4 := by omega
      exact B_X5_thingsHadAt_16 ⟨fun _ => hq τ f, fun z => absurd (by decide) z⟩
    | succ j ih =>
      intro k τ hk f
      refine B_X5_thingsHadAt_16 ⟨fun z => absurd z (nI_ge (a := k) (b := 4) (by omega) (by omega)), fun _ => C_begin_36 hP (h.1.fr f (by omega)) (fun τ1 S f1 hS hA => ?_)⟩
      refine C_play_36 (f := 0) hP (by omega) g.2.1 (by omega) hf hS (h.2.1.fr (f.tr f1) (by omega)) (Zn_al hA Zn_init) (fun τ2 f2 h2 => ?_)
      have hA2 := runS_al (y := -9) (set := 0) (t := k) hP ho (fst A.2.1.1 d - 0) 0 _ _ (by omega) hA
      have hZ2 : Zn A.1.length _ := Zn.run (y := -9) (set := 0) (t := k) ho (fst A.2.1.1 d - 0) 0 _ (by omega) (Zn_al hA Zn_init)
      revert h2 hA2 hZ2
      generalize runS A.1.length k (-9) 0 A.2.1.1 (fst A.2.1.1 d - 0) 0 S = S2
      intro h2 hA2 hZ2
      refine M_X3_stay_36 ⟨vpn (by omega) (by omega), ?_⟩
      rw [cl (by omega)]
      have fE : Fr 36 39 σ (si (sm τ2 37 p (nI w)) 3605 (nI p)) := (((f.tr f1).tr f2).sm (by omega) (by omega)).si (by omega) (by omega)
      have hE : EvC (si (sm τ2 37 p (nI w)) 3605 (nI p)) 5 A.2.1 := h.2.1.fr fE (by omega)
      have h3 : StC (si (sm τ2 37 p (nI w)) 3605 (nI p)) 36 A.1.length k (nI p) (upd S2.1 p (nI w), S2.2) := by
        refine ⟨⟨h2.1.1, h2.1.2.1, rfl⟩, ?_, h2.2.2.1, h2.2.2.2.1, h2.2.2.2.2.1, h2.2.2.2.2.2⟩
        show upd (gm τ2 37) p (nI w) = _
        rw [show gm τ2 37 = S2.1 from h2.2.1]
      rw [hE.gi5.1]
      refine C_play_36 hP (by omega) g.2.1 hf (Nat.le_refl _) h3 hE hZ2 (fun τ3 f3 h4 => ⟨vpn (by omega) (by omega), ?_⟩)
      have hA3 : Al A.1.length (runS A.1.length k (nI p) 0 A.2.1.1 (A.2.1.1.length - fst A.2.1.1 d) (fst A.2.1.1 d) (upd S2.1 p (nI w), S2.2)) (kept A p d w k) := runS_al hP ho _ _ _ _ (by omega) ⟨upd_al hA2.1, hA2.2.1, hA2.2.2.1, hA2.2.2.2⟩
      have e : gm τ3 38 p = (kept A p d w k).2.1 p := by rw [h4.2.2.1]; exact hA3.2.1 p (by omega)
      rw [e, nI_1, nI_1]
      refine ⟨fun q => ?_, fun q => ?_⟩
      · have := ih (k + 1) τ3 (by omega) (fE.tr f3)
        rw [hadC, if_pos q] at this; exact this
      · have := ih (k + 1) τ3 (by omega) (fE.tr f3)
        rw [hadC, if_neg q] at this; exact this
  exact M_X5_thingsHadAt (C_first h.2.1 g.2.1 hd (go 4 0 σ rfl Fr.rf))
theorem C_keepAt {E : EV} {Q : Sg → Int32 → Prop} {σ : Sg} {A : Ab} {p d : Int32} (h : RepC σ A) (g : Good A) (hq : ∀ τ, Fr 36 39 σ τ → Q τ (S_keepAt A p d)) : MetI E mi_X5_keepAt [.ref 0, .int p, .int d] σ Q := by
  have hP := g.1.1
  refine M_X5_keepAt (C_knows_3 h.1.1 hP ⟨fun r => ?_, fun r => C_day ⟨fun r2 => ?_, fun r2 => ?_⟩⟩)
  · rw [bi_0] at r
    have := hq σ Fr.rf
    rw [S_keepAt, if_neg (fun z => r z.1)] at this
    exact this
  · rw [bi_n0] at r r2
    obtain ⟨p', hp, rfl, ep⟩ := ge0 (x := p) r.1
    obtain ⟨d', hd, rfl, ed⟩ := ge0 (x := d) r2.1
    have go : ∀ (j k : Nat) (τ : Sg), k + j = 4 → Fr 36 39 σ τ → K_X5_keepAt_28 E Q τ (nI p') (nI d') (nI (kB A p' d' 5 k).1) (nI (kB A p' d' 5 k).2) (nI k) := by
      intro j
      induction j with
      | zero =>
        intro k τ hk f
        obtain rfl : k = 4 := by omega
        refine B_X5_keepAt_28 ⟨fun _ => ?_, fun z => absurd (by decide) z⟩
        have := hq τ f
        rw [S_keepAt, if_pos ⟨r, r2⟩, cl hp, cl hd] at this
        exact this
      | succ j ih =>
        intro k τ hk f
        have b1 := @kB_le A p' d' 5 k
        have b2 := @hadC_le A p' d' k 4
        refine B_X5_keepAt_28 ⟨fun z => absurd z (nI_ge (a := k) (b := 4) (by omega) (by omega)), fun _ => C_thingsHad (h.fr f (by omega)) g (by omega) (by omega) (by omega) (fun υ f2 => ⟨fun q => ?_, fun q => ?_⟩)⟩
        all_goals rw [nI_leI (by omega) (by omega)] at q
        all_goals have hh := ih (k + 1) υ (by omega) (f.tr f2)
        · rw [kB, if_neg (by omega)] at hh
          rw [nI_1]; exact hh
        · rw [kB, if_pos (by omega)] at hh
          rw [nI_1]; exact hh
    exact go 4 0 σ rfl Fr.rf
  · rw [bi_0] at r2
    have := hq σ Fr.rf
    rw [S_keepAt, if_neg (fun z => r2 z.2)] at this
    exact this
theorem R_keepAt {E : EV} {Q : Sg → Int32 → Prop} {σ : Sg} {A : Ab} {p d : Int32} (h : RepM σ A) (g : Good A) (hq : ∀ τ, Fr 40 57 σ τ → RepM τ A → Q τ (S_keepAt A p d)) : MetI E mi_X6_keepAt [.ref 40, .int p, .int d] σ Q := by
  have hP := g.1.1
  refine M_X6_keepAt (R_one h.1.1 hP ⟨fun r => ?_, fun r => R_in ⟨fun r2 => ?_, fun r2 => ?_⟩⟩)
  · rw [bi_0] at r
    have := hq σ Fr.rf h
    rw [S_keepAt, if_neg (fun z => r z.1)] at this
    exact this
  · rw [bi_n0] at r r2
    rw [iv_0, i99] at r2
    obtain ⟨p', hp, rfl, ep⟩ := ge0 (x := p) r.1
    obtain ⟨d', hd, rfl, ed⟩ := ge0 (x := d) r2.1
    have inn : ∀ (j k w : Nat) (v3 v4 : Int32) (τ : Sg), k + j = 4 → AllM τ A.1.length (kept A p' d' w) → (v4 ≤ nI (hadC A p' d' w 4) → K_X6_keepAt_29 E Q τ (nI p') (nI d') v3 v4 (nI (w + 1))) ∧ (¬ v4 ≤ nI (hadC A p' d' w 4) → K_X6_keepAt_29 E Q τ (nI p') (nI d') (nI w) (nI (hadC A p' d' w 4)) (nI (w + 1))) → K_X6_keepAt_66 E Q τ (nI p') (nI d') v3 v4 (nI w) (nI (hadC A p' d' w k)) (nI k) := by
      intro j
      induction j with
      | zero =>
        intro k w v3 v4 τ hk hA hn
        obtain rfl : k = 4 := by omega
        refine B_X6_keepAt_66 ⟨fun _ => ?_, fun z => absurd (by decide) z⟩
        rw [nI_1]; exact hn
      | succ j ih =>
        intro k w v3 v4 τ hk hA hn
        have e := (hA k (by omega)).2.1 p' (by omega)
        refine B_X6_keepAt_66 ⟨fun z => absurd z (nI_ge (a := k) (b := 4) (by omega) (by omega)), fun _ => ?_⟩
        rw [mul4, cl (by omega), e, Int32.add_zero, nI_1, nI_1]
        have hh := ih (k + 1) w v3 v4 τ (by omega) hA hn
        refine ⟨vpn (by omega) (by omega), fun q => ?_, fun q => ?_⟩
        · rw [hadC, if_pos q] at hh; exact hh
        · rw [hadC, if_neg q] at hh; exact hh
    have go : ∀ (j k : Nat) (τ : Sg), k + j = 4 → Fr 40 57 σ τ → RepM τ A → K_X6_keepAt_29 E Q τ (nI p') (nI d') (nI (kB A p' d' 9 k).1) (nI (kB A p' d' 9 k).2) (nI k) := by
      intro j
      induction j with
      | zero =>
        intro k τ hk f hR
        obtain rfl : k = 4 := by omega
        refine B_X6_keepAt_29 ⟨fun _ => ?_, fun z => absurd (by decide) z⟩
        have := hq τ f hR
        rw [S_keepAt, if_pos ⟨r, by omega⟩, cl hp, cl hd, ← kB_eq 3] at this
        exact this
      | succ j ih =>
        intro k τ hk f hR
        have b1 := @kB_le A p' d' 9 k
        have b2 := @hadC_le A p' d' k 4
        refine B_X6_keepAt_29 ⟨fun z => absurd z (nI_ge (a := k) (b := 4) (by omega) (by omega)), fun _ => M_X6_plain ?_⟩
        have fx : Fx [4024, 4026, 4027, 4028] 51 55 τ (si (si (si (si (si (si τ 4024 0) 4026 100) 4027 (-9)) 4026 (nI d')) 4027 (nI p')) 4028 (nI k)) := (((((Fx.rf.si (by simp)).si (by simp)).si (by simp)).si (by simp)).si (by simp)).si (by simp)
        have hR2 := hR.fx fx (by simp) (by omega)
        obtain ⟨th, hth, eth⟩ := hR2.2.2.2.2.2.2
        refine R_goX (th := th) (m := 0) (ac := fun _ => (true, 0)) (d := d') (y := nI p') (w := nI k) hR2 g hth (by omega) (by omega) (fun i hi => absurd hi (by omega)) (Or.inr ⟨p', by omega, rfl⟩) ⟨⟨fun _ => eth, rfl⟩, ⟨rfl, fun i hi => absurd hi (by omega)⟩, rfl, rfl⟩ (fun υ f2 hR3 _ hA => ?_)
        have hA2 : AllM υ A.1.length (kept A p' d' k) := hA.cg (fun t _ => by
          show goT A 0 th (nI d') 0 (fun _ => (true, 0)) (nI p') (nI k) (fst A.2.1.1 d') t = _
          have e : (if t = th then actN (nI d') (fun _ => (true, 0)) 0 0 (pre A 0 (fst A.2.1.1 d') th) else pre A 0 (fst A.2.1.1 d') t) = pre A 0 (fst A.2.1.1 d') t := by
            by_cases e : t = th
            · subst e; rw [if_pos rfl]; rfl
            · rw [if_neg e]
          rw [goT, e, stayS, if_neg (day_9 (by omega)), cl (by omega)]
          rfl)
        have fr : Fr 40 57 σ υ := (f.tr (fx.fr (by intro k hk; simp at hk; omega) (by omega) (by omega))).tr (f2.fr (by intro k hk; simp at hk; omega) (by omega) (by omega))
        have hh := ih (k + 1) υ (by omega) fr hR3
        refine inn 4 0 k _ _ υ (by omega) hA2 ⟨fun q => ?_, fun q => ?_⟩
        all_goals rw [nI_leI (by omega) (by omega)] at q
        · rw [kB, if_neg (by omega)] at hh; exact hh
        · rw [kB, if_pos (by omega)] at hh; exact hh
    exact go 4 0 σ rfl Fr.rf h
  · rw [bi_0] at r2
    rw [iv_0, i99] at r2
    have := hq σ Fr.rf h
    rw [S_keepAt, if_neg (fun z => r2 z.2)] at this
    exact this
