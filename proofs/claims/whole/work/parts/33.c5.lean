/-! ===== the class: playing a story ===== -/
theorem C_play_loop_36 {E : EV} {Q : Sg → Prop} {n t e : Nat} {y set v2 : Int32} {T : Tl} (hb : n ≤ 8) (ht : t < 4) (hg : okTl n T) (he : e ≤ T.1.length) : ∀ (j k : Nat) (σ : Sg) (S : SS), k + j = e → StC σ 36 n t y S → EvC σ 5 T → Zn n S → (∀ τ, Fr 36 39 σ τ → StC τ 36 n t y (runS n t y set T.1 j k S) → Q τ) → K_X3_play_36_5_7 E Q σ v2 (nI e) set (nI k)
  | 0, k, σ, S, hk, h, hE, hz, hq => by
    obtain rfl : k = e := by omega
    exact B_X3_play_36_5_7 ⟨fun _ => hq σ Fr.rf h, fun q => absurd (nI_le (Nat.le_refl k) (by have := hg.1; omega)) q⟩
  | j + 1, k, σ, S, hk, h, hE, hz, hq => by
    have hL := hg.1
    have hsz : gi σ 505 = nI T.1.length := hE.1
    obtain ⟨g1, g2, g3, g4, g5⟩ := hE.2.2.2 k (by omega)
    have g1 : gm σ 6 k = nI (ge T.1 k).1 := g1
    have g2 : gm σ 7 k = nI (ge T.1 k).2.1 := g2
    have g3 : gm σ 8 k = nI (ge T.1 k).2.2.1 := g3
    have g4 : gm σ 9 k = nI (ge T.1 k).2.2.2 := g4
    have g5 : gm σ 10 k = mb T.1 k := g5
    obtain ⟨o1, o2, o3, o4⟩ := ev_ge hg (k := k) (by omega)
    have es := nIt (n := (ge T.1 k).1) (by omega)
    have e2 : gm σ 38 = S.2.1 := h.2.2.1
    have e4 : gi σ 3604 = nI t := h.1.2.1
    have e5 : gi σ 3605 = y := h.1.2.2
    have step : ∀ τ, Fr 36 39 σ τ → StC τ 36 n t y (evS n t y (set &&& mb T.1 k) (ge T.1 k) S) → K_X3_play_36_5_7 E Q τ v2 (nI e) set (nI (k + 1)) := fun τ f hS => C_play_loop_36 hb ht hg he j (k + 1) τ _ (by omega) hS (hE.fr f (by omega)) (hz.ev ⟨o1, o2, o3, o4⟩) (fun υ f2 h2 => hq υ (f.tr f2) h2)
    have hTalk : (ge T.1 k).1 ≤ 1 → evS n t y (set &&& mb T.1 k) (ge T.1 k) S = talk (ge T.1 k).2.2.1 (ge T.1 k).2.2.2 S → vp_in (nI (ge T.1 k).2.2.2) 8 ∧ vp_in (nI (ge T.1 k).2.2.1) 8 ∧ K_X3_play_36_5_7 E Q (sm σ 38 (nI (ge T.1 k).2.2.2).toNatClampNeg ((gm σ 38) (nI (ge T.1 k).2.2.2).toNatClampNeg ||| (gm σ 38) (nI (ge T.1 k).2.2.1).toNatClampNeg)) v2 (nI e) set (nI (k + 1)) := by
      intro hs hev
      have hbb := (o3 hs).1
      refine ⟨vpn (by omega) (by omega), vpn (by omega) (by omega), step _ (Fr.sm Fr.rf (by omega) (by omega)) ?_⟩
      rw [hev, cl (by omega), cl (by omega), e2]
      exact ⟨h.1, h.2.1, by show upd (gm σ 38) _ _ = _; rw [e2]; rfl, h.2.2.2.1, h.2.2.2.2.1, h.2.2.2.2.2⟩
    refine B_X3_play_36_5_7 ⟨fun q => absurd q (nI_ge (by omega) (by omega)), fun _ => ⟨fun q => absurd q (by rw [hsz]; exact nI_ge (by omega) (by omega)), fun _ => ?_⟩⟩
    rw [cl (n := k) (by omega), g1, g2, g3, g4, g5, e4, e5, nI_1, es]
    refine ⟨vpn (by omega) (by omega), fun q => ⟨fun q2 => ?_, fun q2 => ?_⟩, fun q => ?_, fun q => ⟨fun q2 => ?_, fun q2 => ?_⟩, fun q => ⟨fun q2 => ?_, fun q2 => ?_⟩, fun q => ⟨fun q2 => ?_, fun q2 => ?_⟩⟩
    · refine step σ Fr.rf ?_
      rw [evS, if_neg (by omega), if_neg (by omega), if_neg (by omega), if_neg (by omega), if_pos q2]; exact h
    · refine ⟨vpn (by omega) (by omega), step _ (Fr.sm Fr.rf (by omega) (by omega)) ?_⟩
      rw [evS, if_neg (by omega), if_neg (by omega), if_neg (by omega), if_neg (by omega), if_neg q2, cl (by omega)]
      exact ⟨h.1, by show upd (gm σ 37) _ _ = _; rw [show gm σ 37 = S.1 from h.2.1]; rfl, h.2.2⟩
    · exact hTalk (by omega) (by rw [evS, if_pos (by omega)])
    · refine step σ Fr.rf ?_
      rw [evS, if_neg (by omega), if_pos (by omega), if_pos q2]; exact h
    · exact hTalk (by omega) (by rw [evS, if_neg (by omega), if_pos (by omega), if_neg q2])
    · refine step σ Fr.rf ?_
      rw [evS, if_neg (by omega), if_neg (by omega), if_pos (by omega), if_neg (fun z => q2 (by rw [z]))]; exact h
    · have hbt : (ge T.1 k).2.2.2 = t := inj_nI (by have := o4 (by omega); omega) (by omega) q2
      refine C_think_36 h (by omega) (fun τ f hS => step τ f ?_)
      rw [evS, if_neg (by omega), if_neg (by omega), if_pos (by omega), if_pos hbt]; exact hS
    · refine step σ Fr.rf ?_
      rw [evS, if_neg (by omega), if_neg (by omega), if_neg (by omega), if_pos (by omega), if_neg (fun z => q2 (by rw [z]))]; exact h
    · have hbt : (ge T.1 k).2.2.2 = t := inj_nI (by have := o4 (by omega); omega) (by omega) q2
      refine C_say_36 h hb o2 hz (fun τ f hS => step τ f ?_)
      rw [evS, if_neg (by omega), if_neg (by omega), if_neg (by omega), if_pos (by omega), if_pos hbt]; exact hS
theorem C_play_36 {E : EV} {Q : Sg → Prop} {σ : Sg} {n t f e : Nat} {y set : Int32} {T : Tl} {S : SS} (hb : n ≤ 8) (ht : t < 4) (hg : okTl n T) (hfe : f ≤ e) (he : e ≤ T.1.length) (h : StC σ 36 n t y S) (hE : EvC σ 5 T) (hz : Zn n S) (hq : ∀ τ, Fr 36 39 σ τ → StC τ 36 n t y (runS n t y set T.1 (e - f) f S) → Q τ) : MetV E mi_X3_play [.ref 36, .ref 5, .int (nI f), .int (nI e), .int set] σ Q := by
  have hL := hg.1
  refine M_X3_play_36_5 ?_
  rw [if_neg (nI_pos (n := f) (by omega))]
  exact C_play_loop_36 hb ht hg he (e - f) f σ S (by omega) h hE hz hq
theorem C_begin_36 {E : EV} {Q : Sg → Prop} {σ : Sg} {P : List Nat} {t : Nat} (hP : P.length ≤ 8) (hF : FoC σ 3 P) (hq : ∀ τ S, Fr 36 39 σ τ → StC τ 36 P.length t (-9) S → Al P.length S (init P) → Q τ) : MetV E mi_X3_begin [.ref 36, .ref 3, .int (nI t)] σ Q := by
  have go : ∀ (j k : Nat) (τ : Sg), k + j = 8 → Fr 36 39 σ τ → (∀ p, p < k → gm τ 37 p = gm σ 4 p ∧ gm τ 38 p = 0 ∧ gm τ 39 p = 0) → K_X3_begin_36_3_2 E Q τ (nI t) (nI k) := by
    intro j
    induction j with
    | zero =>
      intro k τ hk f hl
      obtain rfl : k = 8 := by omega
      refine B_X3_begin_36_3_2 ⟨fun _ => ?_, fun q => absurd (by decide) q⟩
      have e : gi τ 301 = nI P.length := by rw [f.gi (by omega)]; exact hF.1
      rw [e]
      refine hq _ (gm τ 37, gm τ 38, gm τ 39, -9, 0) (Fr.si (Fr.si (Fr.si (Fr.si (Fr.si f (by omega) (by omega)) (by omega) (by omega)) (by omega) (by omega)) (by omega) (by omega)) (by omega) (by omega)) ⟨⟨rfl, rfl, rfl⟩, rfl, rfl, rfl, rfl, rfl⟩ ⟨fun p hp => ?_, fun p hp => (hl p hp).2.1, fun p hp => (hl p hp).2.2, rfl⟩
      exact (hl p (by omega)).1.trans (hF.2 p hp)
    | succ j ih =>
      intro k τ hk f hl
      refine B_X3_begin_36_3_2 ⟨fun q => absurd q (nI_ge (a := k) (b := 8) (by omega) (by omega)), fun _ => ⟨vpn (by omega) (by omega), ?_⟩⟩
      rw [cl (n := k) (by omega), nI_1]
      refine ih (k + 1) _ (by omega) (Fr.sm (Fr.sm (Fr.sm f (by omega) (by omega)) (by omega) (by omega)) (by omega) (by omega)) (fun p hp => ?_)
      show upd (gm τ 37) _ _ p = _ ∧ upd (gm τ 38) _ _ p = _ ∧ upd (gm τ 39) _ _ p = _
      by_cases z : p = k
      · subst z; rw [upd_s, upd_s, upd_s, f.gm (a := 4) (by omega)]; exact ⟨rfl, rfl, rfl⟩
      · rw [upd_n z, upd_n z, upd_n z]; exact hl p (by omega)
  exact M_X3_begin_36_3 (go 8 0 σ (by omega) Fr.rf (fun p hp => absurd hp (by omega)))
theorem C_play_loop_32 {E : EV} {Q : Sg → Prop} {n t e : Nat} {y set v2 : Int32} {T : Tl} (hb : n ≤ 8) (ht : t < 4) (hg : okTl n T) (he : e ≤ T.1.length) : ∀ (j k : Nat) (σ : Sg) (S : SS), k + j = e → StC σ 32 n t y S → EvC σ 5 T → Zn n S → (∀ τ, Fr 32 35 σ τ → StC τ 32 n t y (runS n t y set T.1 j k S) → Q τ) → K_X3_play_32_5_7 E Q σ v2 (nI e) set (nI k)
  | 0, k, σ, S, hk, h, hE, hz, hq => by
    obtain rfl : k = e := by omega
    exact B_X3_play_32_5_7 ⟨fun _ => hq σ Fr.rf h, fun q => absurd (nI_le (Nat.le_refl k) (by have := hg.1; omega)) q⟩
  | j + 1, k, σ, S, hk, h, hE, hz, hq => by
    have hL := hg.1
    have hsz : gi σ 505 = nI T.1.length := hE.1
    obtain ⟨g1, g2, g3, g4, g5⟩ := hE.2.2.2 k (by omega)
    have g1 : gm σ 6 k = nI (ge T.1 k).1 := g1
    have g2 : gm σ 7 k = nI (ge T.1 k).2.1 := g2
    have g3 : gm σ 8 k = nI (ge T.1 k).2.2.1 := g3
    have g4 : gm σ 9 k = nI (ge T.1 k).2.2.2 := g4
    have g5 : gm σ 10 k = mb T.1 k := g5
    obtain ⟨o1, o2, o3, o4⟩ := ev_ge hg (k := k) (by omega)
    have es := nIt (n := (ge T.1 k).1) (by omega)
    have e2 : gm σ 34 = S.2.1 := h.2.2.1
    have e4 : gi σ 3204 = nI t := h.1.2.1
    have e5 : gi σ 3205 = y := h.1.2.2
    have step : ∀ τ, Fr 32 35 σ τ → StC τ 32 n t y (evS n t y (set &&& mb T.1 k) (ge T.1 k) S) → K_X3_play_32_5_7 E Q τ v2 (nI e) set (nI (k + 1)) := fun τ f hS => C_play_loop_32 hb ht hg he j (k + 1) τ _ (by omega) hS (hE.fr f (by omega)) (hz.ev ⟨o1, o2, o3, o4⟩) (fun υ f2 h2 => hq υ (f.tr f2) h2)
    have hTalk : (ge T.1 k).1 ≤ 1 → evS n t y (set &&& mb T.1 k) (ge T.1 k) S = talk (ge T.1 k).2.2.1 (ge T.1 k).2.2.2 S → vp_in (nI (ge T.1 k).2.2.2) 8 ∧ vp_in (nI (ge T.1 k).2.2.1) 8 ∧ K_X3_play_32_5_7 E Q (sm σ 34 (nI (ge T.1 k).2.2.2).toNatClampNeg ((gm σ 34) (nI (ge T.1 k).2.2.2).toNatClampNeg ||| (gm σ 34) (nI (ge T.1 k).2.2.1).toNatClampNeg)) v2 (nI e) set (nI (k + 1)) := by
      intro hs hev
      have hbb := (o3 hs).1
      refine ⟨vpn (by omega) (by omega), vpn (by omega) (by omega), step _ (Fr.sm Fr.rf (by omega) (by omega)) ?_⟩
      rw [hev, cl (by omega), cl (by omega), e2]
      exact ⟨h.1, h.2.1, by show upd (gm σ 34) _ _ = _; rw [e2]; rfl, h.2.2.2.1, h.2.2.2.2.1, h.2.2.2.2.2⟩
    refine B_X3_play_32_5_7 ⟨fun q => absurd q (nI_ge (by omega) (by omega)), fun _ => ⟨fun q => absurd q (by rw [hsz]; exact nI_ge (by omega) (by omega)), fun _ => ?_⟩⟩
    rw [cl (n := k) (by omega), g1, g2, g3, g4, g5, e4, e5, nI_1, es]
    refine ⟨vpn (by omega) (by omega), fun q => ⟨fun q2 => ?_, fun q2 => ?_⟩, fun q => ?_, fun q => ⟨fun q2 => ?_, fun q2 => ?_⟩, fun q => ⟨fun q2 => ?_, fun q2 => ?_⟩, fun q => ⟨fun q2 => ?_, fun q2 => ?_⟩⟩
    · refine step σ Fr.rf ?_
      rw [evS, if_neg (by omega), if_neg (by omega), if_neg (by omega), if_neg (by omega), if_pos q2]; exact h
    · refine ⟨vpn (by omega) (by omega), step _ (Fr.sm Fr.rf (by omega) (by omega)) ?_⟩
      rw [evS, if_neg (by omega), if_neg (by omega), if_neg (by omega), if_neg (by omega), if_neg q2, cl (by omega)]
      exact ⟨h.1, by show upd (gm σ 33) _ _ = _; rw [show gm σ 33 = S.1 from h.2.1]; rfl, h.2.2⟩
    · exact hTalk (by omega) (by rw [evS, if_pos (by omega)])
    · refine step σ Fr.rf ?_
      rw [evS, if_neg (by omega), if_pos (by omega), if_pos q2]; exact h
    · exact hTalk (by omega) (by rw [evS, if_neg (by omega), if_pos (by omega), if_neg q2])
    · refine step σ Fr.rf ?_
      rw [evS, if_neg (by omega), if_neg (by omega), if_pos (by omega), if_neg (fun z => q2 (by rw [z]))]; exact h
    · have hbt : (ge T.1 k).2.2.2 = t := inj_nI (by have := o4 (by omega); omega) (by omega) q2
      refine C_think_32 h (by omega) (fun τ f hS => step τ f ?_)
      rw [evS, if_neg (by omega), if_neg (by omega), if_pos (by omega), if_pos hbt]; exact hS
    · refine step σ Fr.rf ?_
      rw [evS, if_neg (by omega), if_neg (by omega), if_neg (by omega), if_pos (by omega), if_neg (fun z => q2 (by rw [z]))]; exact h
    · have hbt : (ge T.1 k).2.2.2 = t := inj_nI (by have := o4 (by omega); omega) (by omega) q2
      refine C_say_32 h hb o2 hz (fun τ f hS => step τ f ?_)
      rw [evS, if_neg (by omega), if_neg (by omega), if_neg (by omega), if_pos (by omega), if_pos hbt]; exact hS
theorem C_play_32 {E : EV} {Q : Sg → Prop} {σ : Sg} {n t f e : Nat} {y set : Int32} {T : Tl} {S : SS} (hb : n ≤ 8) (ht : t < 4) (hg : okTl n T) (hfe : f ≤ e) (he : e ≤ T.1.length) (h : StC σ 32 n t y S) (hE : EvC σ 5 T) (hz : Zn n S) (hq : ∀ τ, Fr 32 35 σ τ → StC τ 32 n t y (runS n t y set T.1 (e - f) f S) → Q τ) : MetV E mi_X3_play [.ref 32, .ref 5, .int (nI f), .int (nI e), .int set] σ Q := by
  have hL := hg.1
  refine M_X3_play_32_5 ?_
  rw [if_neg (nI_pos (n := f) (by omega))]
  exact C_play_loop_32 hb ht hg he (e - f) f σ S (by omega) h hE hz hq
theorem C_begin_32 {E : EV} {Q : Sg → Prop} {σ : Sg} {P : List Nat} {t : Nat} (hP : P.length ≤ 8) (hF : FoC σ 3 P) (hq : ∀ τ S, Fr 32 35 σ τ → StC τ 32 P.length t (-9) S → Al P.length S (init P) → Q τ) : MetV E mi_X3_begin [.ref 32, .ref 3, .int (nI t)] σ Q := by
  have go : ∀ (j k : Nat) (τ : Sg), k + j = 8 → Fr 32 35 σ τ → (∀ p, p < k → gm τ 33 p = gm σ 4 p ∧ gm τ 34 p = 0 ∧ gm τ 35 p = 0) → K_X3_begin_32_3_2 E Q τ (nI t) (nI k) := by
    intro j
    induction j with
    | zero =>
      intro k τ hk f hl
      obtain rfl : k = 8 := by omega
      refine B_X3_begin_32_3_2 ⟨fun _ => ?_, fun q => absurd (by decide) q⟩
      have e : gi τ 301 = nI P.length := by rw [f.gi (by omega)]; exact hF.1
      rw [e]
      refine hq _ (gm τ 33, gm τ 34, gm τ 35, -9, 0) (Fr.si (Fr.si (Fr.si (Fr.si (Fr.si f (by omega) (by omega)) (by omega) (by omega)) (by omega) (by omega)) (by omega) (by omega)) (by omega) (by omega)) ⟨⟨rfl, rfl, rfl⟩, rfl, rfl, rfl, rfl, rfl⟩ ⟨fun p hp => ?_, fun p hp => (hl p hp).2.1, fun p hp => (hl p hp).2.2, rfl⟩
      exact (hl p (by omega)).1.trans (hF.2 p hp)
    | succ j ih =>
      intro k τ hk f hl
      refine B_X3_begin_32_3_2 ⟨fun q => absurd q (nI_ge (a := k) (b := 8) (by omega) (by omega)), fun _ => ⟨vpn (by omega) (by omega), ?_⟩⟩
      rw [cl (n := k) (by omega), nI_1]
      refine ih (k + 1) _ (by omega) (Fr.sm (Fr.sm (Fr.sm f (by omega) (by omega)) (by omega) (by omega)) (by omega) (by omega)) (fun p hp => ?_)
      show upd (gm τ 33) _ _ p = _ ∧ upd (gm τ 34) _ _ p = _ ∧ upd (gm τ 35) _ _ p = _
      by_cases z : p = k
      · subst z; rw [upd_s, upd_s, upd_s, f.gm (a := 4) (by omega)]; exact ⟨rfl, rfl, rfl⟩
      · rw [upd_n z, upd_n z, upd_n z]; exact hl p (by omega)
  exact M_X3_begin_32_3 (go 8 0 σ (by omega) Fr.rf (fun p hp => absurd hp (by omega)))
theorem Zn_al {n : Nat} {S R : SS} (h : Al n S R) (hz : Zn n R) : Zn n S := fun q h1 h2 => (h.2.2.1 q h2).trans (hz q h1 h2)
theorem Zn_init {n : Nat} {P : List Nat} : Zn n (init P) := fun _ _ _ => rfl
/-- one thing's story, whole, with these of the maybe ones -/
def tale (A : Ab) (t : Nat) (set : Int32) : SS := runS A.1.length t (-9) set A.2.1.1 A.2.1.1.length 0 (init A.1)
theorem C_tell {E : EV} {Q : Sg → Prop} {σ : Sg} {A : Ab} {t : Nat} {set : Int32} (h : RepC σ A) (g : Good A) (ht : t < 4) (hq : ∀ τ S, Fr 36 39 σ τ → StC τ 36 A.1.length t (-9) S → Al A.1.length S (tale A t set) → Q τ) : MetV E mi_X5_tellStory [.ref 0, .int (nI t), .int set] σ Q := by
  have hP := g.1.1
  refine M_X5_tellStory (C_begin_36 hP h.1 (fun τ S f hS hA => ?_))
  have hE : EvC τ 5 A.2.1 := h.2.1.fr f (by omega)
  rw [show gi τ 505 = nI A.2.1.1.length from hE.1]
  refine C_play_36 (f := 0) hP ht g.2.1 (by omega) (Nat.le_refl _) hS hE (Zn_al hA Zn_init) (fun υ f2 h2 => hq υ _ (f.tr f2) h2 ?_)
  exact runS_al hP (fun k hk => ev_ge g.2.1 hk) _ _ _ _ (by omega) hA
theorem C_thing {E : EV} {Q : Sg → Int32 → Prop} {σ : Sg} {t : Int32} (hq : Q σ (bi (0 ≤ t.toInt ∧ t.toInt < 4))) : MetI E mi_X5_isThing [.int t] σ Q := by
  refine M_X5_isThing ⟨fun h => ?_, fun h => ⟨fun h2 => ?_, fun h2 => ?_⟩⟩
  · simp only [Int32.lt_iff_toInt_lt, Int32.le_iff_toInt_le, ← Int32.toInt_inj, iv_m9, iv_m3, iv_m2, iv_m1, iv_0, iv_1, iv_2, iv_3, iv_4, iv_5, iv_6, iv_7, iv_8, iv_9, iv_32, iv_40, iv_99, iv_100, iv_400] at h; exact q0 hq (by omega)
  · simp only [Int32.lt_iff_toInt_lt, Int32.le_iff_toInt_le, ← Int32.toInt_inj, iv_m9, iv_m3, iv_m2, iv_m1, iv_0, iv_1, iv_2, iv_3, iv_4, iv_5, iv_6, iv_7, iv_8, iv_9, iv_32, iv_40, iv_99, iv_100, iv_400] at h h2; first | exact q0 hq (by omega) | exact q1 hq (by omega)
  · simp only [Int32.lt_iff_toInt_lt, Int32.le_iff_toInt_le, ← Int32.toInt_inj, iv_m9, iv_m3, iv_m2, iv_m1, iv_0, iv_1, iv_2, iv_3, iv_4, iv_5, iv_6, iv_7, iv_8, iv_9, iv_32, iv_40, iv_99, iv_100, iv_400] at h h2; first | exact q1 hq (by omega) | exact q0 hq (by omega)
