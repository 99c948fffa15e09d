abbrev sI (σ : Sg) (k : Nat) (v : Int32) : Sg := si σ k v
/-! ===== the class: days, undo, images, counts, the text ===== -/
theorem C_days {E : EV} {Q : Sg → Int32 → Prop} {σ : Sg} {A : Ab} {n : Int32} (h : RepC σ A) (g : Good A) (hq : ∀ τ, Fr 0 39 σ τ → RepC τ (S_days A n).2 → Q τ (S_days A n).1) : MetI E mi_X5_days [.ref 0, .int n] σ Q := by
  have hr := h
  obtain ⟨h1, ⟨a5, a6, a7, ak⟩, h3, h4, h5, h6⟩ := h
  have hT := g.2.1.2.2.1
  have a7 : gi σ 507 = nI A.2.1.2 := a7
  have bad : ¬ (1 ≤ n.toInt ∧ n.toInt ≤ 99) → Q σ (-1) := fun z => by
    have := hq σ Fr.rf
    rw [S_days, if_neg z] at this
    exact this hr
  refine M_X5_days ⟨fun q => ?_, fun q => ⟨fun q2 => ?_, fun q2 => ?_⟩⟩
  · simp only [Int32.lt_iff_toInt_lt, Int32.le_iff_toInt_le, ← Int32.toInt_inj, iv_m9, iv_m3, iv_m2, iv_m1, iv_0, iv_1, iv_2, iv_3, iv_4, iv_5, iv_6, iv_7, iv_8, iv_9, iv_32, iv_40, iv_99, iv_100, iv_400] at q; exact bad (by omega)
  · simp only [Int32.lt_iff_toInt_lt, Int32.le_iff_toInt_le, ← Int32.toInt_inj, iv_m9, iv_m3, iv_m2, iv_m1, iv_0, iv_1, iv_2, iv_3, iv_4, iv_5, iv_6, iv_7, iv_8, iv_9, iv_32, iv_40, iv_99, iv_100, iv_400] at q q2
    obtain ⟨m, hm, rfl, em⟩ := ge0 (x := n) (by omega)
    have es : (nI (A.2.1.2 + m)).toInt = ((A.2.1.2 + m : Nat) : Int) := nIt (by omega)
    rw [a7, nI_add]
    refine ⟨fun q3 => ?_, fun q3 => ?_⟩
    · simp only [Int32.lt_iff_toInt_lt, Int32.le_iff_toInt_le, ← Int32.toInt_inj, iv_m9, iv_m3, iv_m2, iv_m1, iv_0, iv_1, iv_2, iv_3, iv_4, iv_5, iv_6, iv_7, iv_8, iv_9, iv_32, iv_40, iv_99, iv_100, iv_400, es] at q3
      have hh := hq (si σ 507 (nI (A.2.1.2 + m))) (Fr.si Fr.rf (by omega) (by omega))
      rw [S_days, if_pos (by omega), cl hm, if_pos (by omega)] at hh
      have f : Fr 5 5 σ (si σ 507 (nI (A.2.1.2 + m))) := Fr.si Fr.rf (by omega) (by omega)
      exact hh ⟨h1.fr f (by omega), ⟨a5, a6, rfl, ak⟩, ⟨h3.1, h3.2⟩, h4.fr f (by omega) (by omega), h5.fr f (by omega) (by omega), h6⟩
    · simp only [Int32.lt_iff_toInt_lt, Int32.le_iff_toInt_le, ← Int32.toInt_inj, iv_m9, iv_m3, iv_m2, iv_m1, iv_0, iv_1, iv_2, iv_3, iv_4, iv_5, iv_6, iv_7, iv_8, iv_9, iv_32, iv_40, iv_99, iv_100, iv_400, es] at q3
      have hh := hq σ Fr.rf
      rw [S_days, if_pos (by omega), cl hm, if_neg (by omega)] at hh
      exact hh hr
  · simp only [Int32.lt_iff_toInt_lt, Int32.le_iff_toInt_le, ← Int32.toInt_inj, iv_m9, iv_m3, iv_m2, iv_m1, iv_0, iv_1, iv_2, iv_3, iv_4, iv_5, iv_6, iv_7, iv_8, iv_9, iv_32, iv_40, iv_99, iv_100, iv_400] at q q2; exact bad (by omega)
theorem EvC.cut {σ τ : Sg} {o : Nat} {t : Tl} (h : EvC σ o t) (hl : 0 < t.1.length) (h5 : gi τ (100 * o + 5) = nI (t.1.length - 1)) (h6 : gi τ (100 * o + 6) = nI (mc t.1 - if (ge t.1 (t.1.length - 1)).1 = 1 then 1 else 0)) (h7 : gi τ (100 * o + 7) = nI t.2)
    (m1 : gm τ (o + 1) = gm σ (o + 1)) (m2 : gm τ (o + 2) = gm σ (o + 2)) (m3 : gm τ (o + 3) = gm σ (o + 3)) (m4 : gm τ (o + 4) = gm σ (o + 4)) (m5 : gm τ (o + 5) = gm σ (o + 5)) : EvC τ o (t.1.take (t.1.length - 1), t.2) := by
  obtain ⟨a5, a6, a7, ak⟩ := h
  have e1 : (t.1.take (t.1.length - 1)).length = t.1.length - 1 := by rw [List.length_take]; omega
  have e2 : mc t.1 = mc (t.1.take (t.1.length - 1)) + if (ge t.1 (t.1.length - 1)).1 = 1 then 1 else 0 := by
    have := mc_step (l := t.1) (k := t.1.length - 1) (by omega)
    rw [show t.1.length - 1 + 1 = t.1.length by omega, List.take_length] at this
    exact this
  refine ⟨by rw [h5]; show _ = nI (t.1.take (t.1.length - 1)).length; rw [e1], by rw [h6]; show _ = nI (mc (t.1.take (t.1.length - 1))); rw [e2, Nat.add_sub_cancel], h7, fun k hk => ?_⟩
  have hk : k < t.1.length - 1 := by rw [← e1]; exact hk
  rw [m1, m2, m3, m4, m5]
  show _ = nI (ge (t.1.take (t.1.length - 1)) k).1 ∧ _ = nI (ge (t.1.take (t.1.length - 1)) k).2.1 ∧ _ = nI (ge (t.1.take (t.1.length - 1)) k).2.2.1 ∧ _ = nI (ge (t.1.take (t.1.length - 1)) k).2.2.2 ∧ _ = mb (t.1.take (t.1.length - 1)) k
  rw [ge_take hk, mb_take hk]
  exact ak k (by omega)
theorem mc_last {l : List Ev} (h : 0 < l.length) (h1 : (ge l (l.length - 1)).1 = 1) : 1 ≤ mc l := by
  have := mc_step (l := l) (k := l.length - 1) (by omega)
  rw [show l.length - 1 + 1 = l.length by omega, List.take_length, if_pos h1] at this
  omega
theorem C_undo {E : EV} {Q : Sg → Int32 → Prop} {σ : Sg} {A : Ab} (h : RepC σ A) (g : Good A) (hq : ∀ τ, Fr 0 39 σ τ → RepC τ (S_undo A).2 → Q τ (S_undo A).1) : MetI E mi_X5_undo [.ref 0] σ Q := by
  have hr := h
  obtain ⟨h1, h2, h3, h4, h5, h6⟩ := h
  have hL := g.2.1.1
  have hM := g.2.1.2.1
  have a5 : gi σ 505 = nI A.2.1.1.length := h2.1
  have a6 : gi σ 506 = nI (mc A.2.1.1) := h2.2.1
  have eL := nIt (n := A.2.1.1.length) (by omega)
  refine M_X5_undo ⟨fun q => ?_, fun q => ?_⟩
  · rw [a5] at q; simp only [Int32.lt_iff_toInt_lt, Int32.le_iff_toInt_le, ← Int32.toInt_inj, iv_m9, iv_m3, iv_m2, iv_m1, iv_0, iv_1, iv_2, iv_3, iv_4, iv_5, iv_6, iv_7, iv_8, iv_9, iv_32, iv_40, iv_99, iv_100, iv_400, eL] at q
    have hl : 0 < A.2.1.1.length := by omega
    have es : nI A.2.1.1.length - 1 = nI (A.2.1.1.length - 1) := by rw [show A.2.1.1.length = (A.2.1.1.length - 1) + 1 by omega, nI_pred]; rfl
    have hk := (h2.2.2.2 (A.2.1.1.length - 1) (by omega)).1
    have done : ∀ τ, Fr 5 5 σ τ → EvC τ 5 (A.2.1.1.take (A.2.1.1.length - 1), A.2.1.2) → gi τ 505 = nI (A.2.1.1.length - 1) → Q τ (gi τ 505) := by
      intro τ f e e5
      have hh := hq τ (f.mono (by omega) (by omega))
      rw [S_undo, if_neg (by omega)] at hh
      rw [e5]
      exact hh ⟨h1.fr f (by omega), e, ⟨by rw [f.gi (by omega)]; exact h3.1, fun k hk => by rw [f.gm (by omega)]; exact h3.2 k hk⟩, h4.fr f (by omega) (by omega), h5.fr f (by omega) (by omega), by rw [f.gl (by omega)]; exact h6⟩
    refine M_X0_dropLast_5 ⟨fun q2 => ?_, fun q2 => ?_⟩
    · rw [a5] at q2; simp only [Int32.lt_iff_toInt_lt, Int32.le_iff_toInt_le, ← Int32.toInt_inj, iv_m9, iv_m3, iv_m2, iv_m1, iv_0, iv_1, iv_2, iv_3, iv_4, iv_5, iv_6, iv_7, iv_8, iv_9, iv_32, iv_40, iv_99, iv_100, iv_400, eL] at q2; omega
    · rw [a5, es, cl (by omega)]
      refine ⟨vpn (by omega) (by omega), fun q3 => ?_, fun q3 => ?_⟩
      · have hn1 : (ge A.2.1.1 (A.2.1.1.length - 1)).1 ≠ 1 := by
          intro z; apply q3; rw [show (gm σ 6) (A.2.1.1.length - 1) = _ from hk, z]; rfl
        exact done _ (Fr.si Fr.rf (by omega) (by omega)) (h2.cut hl rfl (by show gi σ 506 = _; rw [if_neg hn1]; exact a6) h2.2.2.1 rfl rfl rfl rfl rfl) rfl
      · have hn1 : (ge A.2.1.1 (A.2.1.1.length - 1)).1 = 1 := by
          rw [show (gm σ 6) (A.2.1.1.length - 1) = _ from hk] at q3
          have := (ev_ge g.2.1 (k := A.2.1.1.length - 1) (by omega)).1
          exact inj_nI (by omega) (by omega) q3
        have hm1 := mc_last hl hn1
        exact done _ (Fr.si (Fr.si Fr.rf (by omega) (by omega)) (by omega) (by omega)) (h2.cut hl rfl (by show gi σ 506 - 1 = _; rw [if_pos hn1, a6]; conv => lhs; rw [show mc A.2.1.1 = (mc A.2.1.1 - 1) + 1 by omega, nI_pred]) h2.2.2.1 rfl rfl rfl rfl rfl) rfl
  · rw [a5] at q; simp only [Int32.lt_iff_toInt_lt, Int32.le_iff_toInt_le, ← Int32.toInt_inj, iv_m9, iv_m3, iv_m2, iv_m1, iv_0, iv_1, iv_2, iv_3, iv_4, iv_5, iv_6, iv_7, iv_8, iv_9, iv_32, iv_40, iv_99, iv_100, iv_400, eL] at q
    have hh := hq σ Fr.rf
    rw [S_undo, if_pos (by omega)] at hh
    exact hh hr
theorem ImC.si {k j o : Nat} {v : Int32} {τ : Sg} {u : Option Tl} (h : ImC τ k o u) (hj : j < 100) (hk : k ≠ j) (ho : 0 < o) : ImC (si τ j v) k o u := by
  cases u with
  | none => show gi (sI τ j v) k = 0; rw [gi_si_n hk]; exact h
  | some u => exact ⟨by rw [gi_si_n hk]; exact h.1, h.2.fr (lo := 0) (hi := 0) (Fr.si Fr.rf (by omega) (by omega)) (by omega)⟩
theorem RepC.parts {σ τ : Sg} {A : Ab} {lo hi : Nat} (h : RepC σ A) (f : Fr lo hi σ τ) (q : 19 < lo) : FoC τ 3 A.1 ∧ EvC τ 5 A.2.1 ∧ TxC τ A.2.2.1 ∧ gl τ 10 = A.2.2.2.2.2 := by
  obtain ⟨h1, h2, h3, h4, h5, h6⟩ := h
  exact ⟨h1.fr f (by omega), h2.fr f (by omega), h3.fr f (by omega), by rw [f.gl (by omega)]; exact h6⟩
theorem C_keep {E : EV} {Q : Sg → Int32 → Prop} {σ : Sg} {A : Ab} {i : Int32} (h : RepC σ A) (g : Good A) (hq : ∀ τ, Fr 0 39 σ τ → RepC τ (S_keep A i).2 → Q τ (S_keep A i).1) : MetI E mi_X5_keep [.ref 0, .int i] σ Q := by
  have hr := h
  obtain ⟨h1, h2, h3, h4, h5, h6⟩ := h
  have hL := g.2.1.1
  refine M_X5_keep ⟨fun q => ⟨fun q2 => ?_, fun q2 => ?_⟩, fun q => ?_⟩
  · simp only [Int32.lt_iff_toInt_lt, Int32.le_iff_toInt_le, ← Int32.toInt_inj, iv_m9, iv_m3, iv_m2, iv_m1, iv_0, iv_1, iv_2, iv_3, iv_4, iv_5, iv_6, iv_7, iv_8, iv_9, iv_32, iv_40, iv_99, iv_100, iv_400] at q q2
    have hh := hq σ Fr.rf
    rw [S_keep, if_neg (by omega), if_neg (by omega)] at hh
    exact hh hr
  · refine C_take_26_5 h2 hL (fun τ f e => ?_)
    simp only [Int32.lt_iff_toInt_lt, Int32.le_iff_toInt_le, ← Int32.toInt_inj, iv_m9, iv_m3, iv_m2, iv_m1, iv_0, iv_1, iv_2, iv_3, iv_4, iv_5, iv_6, iv_7, iv_8, iv_9, iv_32, iv_40, iv_99, iv_100, iv_400] at q q2
    have hh := hq (si τ 7 1) (Fr.si (f.mono (by omega) (by omega)) (by omega) (by omega))
    rw [S_keep, if_neg (by omega), if_pos (by omega)] at hh
    obtain ⟨k1, k2, k3, k6⟩ := hr.parts f (by omega)
    have k4 : ImC τ 6 20 A.2.2.2.1 := h4.fr f (by omega) (by omega)
    have f0 : Fr 0 0 τ (si τ 7 1) := Fr.si Fr.rf (by omega) (by omega)
    rw [show gi τ 505 = nI A.2.1.1.length from k2.1]
    exact hh ⟨k1.fr f0 (by omega), k2.fr f0 (by omega), ⟨k3.1, k3.2⟩, k4.si (by omega) (by omega) (by omega), ⟨rfl, e.fr f0 (by omega)⟩, k6⟩
  · refine C_take_20_5 h2 hL (fun τ f e => ?_)
    simp only [Int32.lt_iff_toInt_lt, Int32.le_iff_toInt_le, ← Int32.toInt_inj, iv_m9, iv_m3, iv_m2, iv_m1, iv_0, iv_1, iv_2, iv_3, iv_4, iv_5, iv_6, iv_7, iv_8, iv_9, iv_32, iv_40, iv_99, iv_100, iv_400] at q
    have hh := hq (si τ 6 1) (Fr.si (f.mono (by omega) (by omega)) (by omega) (by omega))
    rw [S_keep, if_pos (by omega)] at hh
    obtain ⟨k1, k2, k3, k6⟩ := hr.parts f (by omega)
    have k5 : ImC τ 7 26 A.2.2.2.2.1 := h5.fr f (by omega) (by omega)
    have f0 : Fr 0 0 τ (si τ 6 1) := Fr.si Fr.rf (by omega) (by omega)
    rw [show gi τ 505 = nI A.2.1.1.length from k2.1]
    exact hh ⟨k1.fr f0 (by omega), k2.fr f0 (by omega), ⟨k3.1, k3.2⟩, ⟨rfl, e.fr f0 (by omega)⟩, k5.si (by omega) (by omega) (by omega), k6⟩
theorem C_back {E : EV} {Q : Sg → Int32 → Prop} {σ : Sg} {A : Ab} {i : Int32} (h : RepC σ A) (g : Good A) (hq : ∀ τ, Fr 0 39 σ τ → RepC τ (S_back A i).2 → Q τ (S_back A i).1) : MetI E mi_X5_back [.ref 0, .int i] σ Q := by
  have hr := h
  obtain ⟨h1, h2, h3, h4, h5, h6⟩ := h
  have bad : ¬ (i.toInt = 0 ∨ i.toInt = 1) → Q σ (-1) := fun z => by
    have hh := hq σ Fr.rf
    rw [S_back, if_neg (by omega), if_neg (by omega)] at hh
    exact hh hr
  have fin : ∀ (τ : Sg) (u : Tl), Fr 5 10 σ τ → EvC τ 5 u → (RepC τ (withT A u) → Q τ (nI u.1.length)) → Q τ (gi τ 505) := fun τ u f e hh => by
    rw [show gi τ 505 = nI u.1.length from e.1]
    exact hh ⟨h1.fr f (by omega), e, ⟨by rw [f.gi (by omega)]; exact h3.1, fun k hk => by rw [f.gm (by omega)]; exact h3.2 k hk⟩, h4.fr f (by omega) (by omega), h5.fr f (by omega) (by omega), by rw [f.gl (by omega)]; exact h6⟩
  refine M_X5_back ⟨fun q => ?_, fun q => ⟨fun q2 => ⟨fun q3 => ⟨fun q4 => ?_, fun q4 => ?_⟩, fun q3 => ⟨fun q4 => ?_, fun q4 => ?_⟩⟩, fun q2 => ?_⟩⟩
  · simp only [Int32.lt_iff_toInt_lt, Int32.le_iff_toInt_le, ← Int32.toInt_inj, iv_m9, iv_m3, iv_m2, iv_m1, iv_0, iv_1, iv_2, iv_3, iv_4, iv_5, iv_6, iv_7, iv_8, iv_9, iv_32, iv_40, iv_99, iv_100, iv_400] at q; exact bad (by omega)
  · simp only [Int32.lt_iff_toInt_lt, Int32.le_iff_toInt_le, ← Int32.toInt_inj, iv_m9, iv_m3, iv_m2, iv_m1, iv_0, iv_1, iv_2, iv_3, iv_4, iv_5, iv_6, iv_7, iv_8, iv_9, iv_32, iv_40, iv_99, iv_100, iv_400] at q q2 q3
    cases hu : A.2.2.2.2.1 with
    | none => rw [hu] at h5; exact absurd h5 q4
    | some u =>
      rw [hu] at h5
      refine C_take_5_26 h5.2 (g.2.2.2.2 u hu).1 (fun τ f e => fin τ u f e ?_)
      have hh := hq τ (f.mono (by omega) (by omega))
      rw [S_back, if_neg (by omega), if_pos (by omega), hu] at hh
      exact hh
  · simp only [Int32.lt_iff_toInt_lt, Int32.le_iff_toInt_le, ← Int32.toInt_inj, iv_m9, iv_m3, iv_m2, iv_m1, iv_0, iv_1, iv_2, iv_3, iv_4, iv_5, iv_6, iv_7, iv_8, iv_9, iv_32, iv_40, iv_99, iv_100, iv_400] at q q2 q3
    cases hu : A.2.2.2.2.1 with
    | none =>
      have hh := hq σ Fr.rf
      rw [S_back, if_neg (by omega), if_pos (by omega), hu] at hh
      exact hh hr
    | some u => rw [hu] at h5; rw [h5.1] at q4; exact absurd q4 (by decide)
  · simp only [Int32.lt_iff_toInt_lt, Int32.le_iff_toInt_le, ← Int32.toInt_inj, iv_m9, iv_m3, iv_m2, iv_m1, iv_0, iv_1, iv_2, iv_3, iv_4, iv_5, iv_6, iv_7, iv_8, iv_9, iv_32, iv_40, iv_99, iv_100, iv_400] at q q2 q3
    cases hu : A.2.2.2.1 with
    | none =>
      have hh := hq σ Fr.rf
      rw [S_back, if_pos (by omega), hu] at hh
      exact hh hr
    | some u => rw [hu] at h4; rw [h4.1] at q4; exact absurd q4 (by decide)
  · simp only [Int32.lt_iff_toInt_lt, Int32.le_iff_toInt_le, ← Int32.toInt_inj, iv_m9, iv_m3, iv_m2, iv_m1, iv_0, iv_1, iv_2, iv_3, iv_4, iv_5, iv_6, iv_7, iv_8, iv_9, iv_32, iv_40, iv_99, iv_100, iv_400] at q q2 q3
    cases hu : A.2.2.2.1 with
    | none => rw [hu] at h4; exact absurd h4 q4
    | some u =>
      rw [hu] at h4
      refine C_take_5_20 h4.2 (g.2.2.2.1 u hu).1 (fun τ f e => fin τ u f e ?_)
      have hh := hq τ (f.mono (by omega) (by omega))
      rw [S_back, if_pos (by omega), hu] at hh
      exact hh
  · simp only [Int32.lt_iff_toInt_lt, Int32.le_iff_toInt_le, ← Int32.toInt_inj, iv_m9, iv_m3, iv_m2, iv_m1, iv_0, iv_1, iv_2, iv_3, iv_4, iv_5, iv_6, iv_7, iv_8, iv_9, iv_32, iv_40, iv_99, iv_100, iv_400] at q q2; exact bad (by omega)
theorem C_count {E : EV} {Q : Sg → Int32 → Prop} {σ : Sg} {A : Ab} {w : Int32} (h : RepC σ A) (hq : Q σ (S_count A w)) : MetI E mi_X5_count [.ref 0, .int w] σ Q := by
  obtain ⟨h1, h2, h3, -⟩ := h
  refine M_X5_count ⟨fun q => ?_, fun q => ?_, fun q => ?_, fun q => ?_, fun q => ?_, fun q => ?_⟩
  · rw [S_count, if_neg (by omega), if_neg (by omega), if_neg (by omega), if_neg (by omega), if_neg (by omega)] at hq; exact hq
  · rw [S_count, if_pos (by omega)] at hq; rw [show gi σ 301 = _ from h1.1]; exact hq
  · rw [S_count, if_neg (by omega), if_pos (by omega)] at hq; rw [h2.gi5.1]; exact hq
  · rw [S_count, if_neg (by omega), if_neg (by omega), if_pos (by omega)] at hq; rw [h2.gi5.2.1]; exact hq
  · rw [S_count, if_neg (by omega), if_neg (by omega), if_neg (by omega), if_pos (by omega)] at hq; rw [h2.gi5.2.2]; exact hq
  · rw [S_count, if_neg (by omega), if_neg (by omega), if_neg (by omega), if_neg (by omega), if_pos (by omega)] at hq; rw [h3.1]; exact hq
theorem C_trace {E : EV} {Q : Sg → Int64 → Prop} {σ : Sg} {A : Ab} (h : RepC σ A) (hq : Q σ A.2.2.2.2.2) : MetL E mi_X5_trace [.ref 0] σ Q := M_X5_trace (by rw [h.2.2.2.2.2]; exact hq)
/-! the text -/
theorem TxC.push {σ : Sg} {X : List Nat} {x : Nat} (h : TxC σ X) : TxC (si (sm σ 2 X.length (nI x)) 101 (nI (X.length + 1))) (X ++ [x]) := by
  refine ⟨by rw [List.length_append]; rfl, fun k hk => ?_⟩
  have hk : k < X.length + 1 := by have := hk; rw [List.length_append] at this; exact this
  rw [gm_si, gm_sm_s]
  rcases Nat.lt_or_ge k X.length with q | q
  · rw [upd_n (by omega), gd_app q]; exact h.2 k q
  · obtain rfl : k = X.length := by omega
    rw [upd_s, gd_last]
theorem C_push {E : EV} {Q : Sg → Prop} {σ : Sg} {X : List Nat} {x : Nat} (h : TxC σ X) (hl : X.length < 400) (hq : ∀ τ, Fr 1 2 σ τ → TxC τ (X ++ [x]) → Q τ) : MetV E mi_X4_add [.ref 1, .int (nI x)] σ Q := by
  have e := nIt (n := X.length) (by omega)
  refine M_X4_add_1 ⟨fun q => ?_, fun q => ?_⟩
  · rw [h.1] at q; simp only [Int32.lt_iff_toInt_lt, Int32.le_iff_toInt_le, ← Int32.toInt_inj, iv_m9, iv_m3, iv_m2, iv_m1, iv_0, iv_1, iv_2, iv_3, iv_4, iv_5, iv_6, iv_7, iv_8, iv_9, iv_32, iv_40, iv_99, iv_100, iv_400, e] at q; omega
  · rw [h.1, cl (by omega), nI_1]
    exact ⟨vpn hl (by omega), hq _ (Fr.si (Fr.sm Fr.rf (by omega) (by omega)) (by omega) (by omega)) h.push⟩
theorem bt_eq (v : Int64) (j : Nat) : (((v >>> (((8 : Int32) * nI j).toInt64 &&& 63)).toInt32) &&& (255 : Int32)) = nI (bt v j) ∧ bt v j < 256 := by
  obtain ⟨k, hk, e⟩ := pk_andE ((v >>> (((8 : Int32) * nI j).toInt64 &&& 63)).toInt32) (m := 255) 8 (by decide)
  have e2 : bt v j = k := by rw [bt, e, cl (by omega)]
  rw [e2]
  exact ⟨e, by omega⟩
theorem bts_len (v : Int64) : ∀ n, (bts v n).length = n
  | 0 => rfl
  | n + 1 => by rw [bts, List.length_cons, bts_len v n]
theorem C_type_loop {E : EV} {Q : Sg → Int32 → Prop} {v : Int64} {v3 : Int32} : ∀ (k : Nat) (σ : Sg) (X : List Nat), X.length + k ≤ 400 → TxC σ X → (∀ τ, Fr 1 2 σ τ → TxC τ (X ++ bts v k) → Q τ (nI (X.length + k))) → K_X5_type_36 E Q σ v v3 (nI k - 1)
  | 0, σ, X, hk, hX, hq => B_X5_type_36 ⟨fun _ => by
      rw [hX.1]
      have := hq σ Fr.rf
      rw [bts, List.append_nil] at this
      exact this hX, fun q => absurd (by decide) q⟩
  | k + 1, σ, X, hk, hX, hq => by
    rw [nI_pred]
    refine B_X5_type_36 ⟨fun q => absurd q (nI_pos (by omega)), fun _ => ?_⟩
    rw [(bt_eq v k).1]
    refine C_push hX (by omega) (fun τ f e => ?_)
    rw [show nI k + (-1) = nI k - 1 from (Int32.sub_eq_add_neg ..).symm]
    refine C_type_loop k τ _ (by rw [List.length_append]; simp only [List.length_cons, List.length_nil]; omega) e (fun τ2 f2 e2 => ?_)
    have := hq τ2 (f.tr f2)
    rw [bts] at this
    rw [List.append_assoc] at e2
    rw [show (X ++ [bt v k]).length + k = X.length + (k + 1) by rw [List.length_append]; simp only [List.length_cons, List.length_nil]; omega]
    exact this e2
theorem RepC.txt {σ τ : Sg} {A : Ab} {X : List Nat} (h : RepC σ A) (f : Fr 1 2 σ τ) (e : TxC τ X) : RepC τ (withX A X) := by
  obtain ⟨h1, h2, h3, h4, h5, h6⟩ := h
  exact ⟨h1.fr f (by omega), h2.fr f (by omega), e, h4.fr f (by omega) (by omega), h5.fr f (by omega) (by omega), by rw [f.gl (by omega)]; exact h6⟩
theorem C_type {E : EV} {Q : Sg → Int32 → Prop} {σ : Sg} {A : Ab} {v : Int64} {n : Int32} (h : RepC σ A) (g : Good A) (hq : ∀ τ, Fr 0 39 σ τ → RepC τ (S_type A v n).2 → Q τ (S_type A v n).1) : MetI E mi_X5_type [.ref 0, .long v, .int n] σ Q := by
  have hX := g.2.2.1.1
  have hx : gi σ 101 = nI A.2.2.1.length := h.2.2.1.1
  have bad : ¬ (1 ≤ n.toInt ∧ n.toInt ≤ 8) → Q σ (-1) := fun z => by
    have := hq σ Fr.rf
    rw [S_type, if_neg z] at this
    exact this h
  refine M_X5_type ⟨fun q => ?_, fun q => ⟨fun q2 => ?_, fun q2 => ?_⟩⟩
  · simp only [Int32.lt_iff_toInt_lt, Int32.le_iff_toInt_le, ← Int32.toInt_inj, iv_m9, iv_m3, iv_m2, iv_m1, iv_0, iv_1, iv_2, iv_3, iv_4, iv_5, iv_6, iv_7, iv_8, iv_9, iv_32, iv_40, iv_99, iv_100, iv_400] at q; exact bad (by omega)
  · simp only [Int32.lt_iff_toInt_lt, Int32.le_iff_toInt_le, ← Int32.toInt_inj, iv_m9, iv_m3, iv_m2, iv_m1, iv_0, iv_1, iv_2, iv_3, iv_4, iv_5, iv_6, iv_7, iv_8, iv_9, iv_32, iv_40, iv_99, iv_100, iv_400] at q q2
    obtain ⟨m, hm, rfl, em⟩ := ge0 (x := n) (by omega)
    have es : (nI (A.2.2.1.length + m)).toInt = ((A.2.2.1.length + m : Nat) : Int) := nIt (by omega)
    rw [hx, nI_add]
    refine ⟨fun q3 => ?_, fun q3 => ?_⟩
    · simp only [Int32.lt_iff_toInt_lt, Int32.le_iff_toInt_le, ← Int32.toInt_inj, iv_m9, iv_m3, iv_m2, iv_m1, iv_0, iv_1, iv_2, iv_3, iv_4, iv_5, iv_6, iv_7, iv_8, iv_9, iv_32, iv_40, iv_99, iv_100, iv_400, es] at q3
      refine C_type_loop m σ A.2.2.1 (by omega) h.2.2.1 (fun τ f e => ?_)
      have hh := hq τ (f.mono (by omega) (by omega))
      rw [S_type, if_pos (by omega), cl hm, if_pos (by omega)] at hh
      exact hh (h.txt f e)
    · simp only [Int32.lt_iff_toInt_lt, Int32.le_iff_toInt_le, ← Int32.toInt_inj, iv_m9, iv_m3, iv_m2, iv_m1, iv_0, iv_1, iv_2, iv_3, iv_4, iv_5, iv_6, iv_7, iv_8, iv_9, iv_32, iv_40, iv_99, iv_100, iv_400, es] at q3
      have hh := hq σ Fr.rf
      rw [S_type, if_pos (by omega), cl hm, if_neg (by omega)] at hh
      exact hh h
  · simp only [Int32.lt_iff_toInt_lt, Int32.le_iff_toInt_le, ← Int32.toInt_inj, iv_m9, iv_m3, iv_m2, iv_m1, iv_0, iv_1, iv_2, iv_3, iv_4, iv_5, iv_6, iv_7, iv_8, iv_9, iv_32, iv_40, iv_99, iv_100, iv_400] at q q2; exact bad (by omega)
theorem C_clear {E : EV} {Q : Sg → Int32 → Prop} {σ : Sg} {A : Ab} (h : RepC σ A) (hq : ∀ τ, Fr 0 39 σ τ → RepC τ (S_clear A).2 → Q τ (S_clear A).1) : MetI E mi_X5_clear [.ref 0] σ Q := by
  refine M_X5_clear ?_
  rw [h.2.2.1.1]
  exact hq _ (Fr.si Fr.rf (by omega) (by omega)) (h.txt (Fr.si Fr.rf (by omega) (by omega)) ⟨rfl, fun k hk => absurd hk (by simp)⟩)
