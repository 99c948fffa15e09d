/-! ===== the reference: people, events, images, text ===== -/
theorem R_in {E : EV} {Q : Sg → Int32 → Prop} {σ : Sg} {v a b : Int32} (hq : Q σ (bi (a.toInt ≤ v.toInt ∧ v.toInt ≤ b.toInt))) : MetI E mi_X6_in [.int v, .int a, .int b] σ Q := by
  refine M_X6_in ⟨fun h => ?_, fun h => ⟨fun h2 => ?_, fun h2 => ?_⟩⟩
  · simp only [Int32.lt_iff_toInt_lt, Int32.le_iff_toInt_le, ← Int32.toInt_inj, iv_m9, iv_m3, iv_m2, iv_m1, iv_0, iv_1, iv_2, iv_3, iv_4, iv_5, iv_6, iv_7, iv_8, iv_9, iv_32, iv_40, iv_99, iv_100, iv_400] at h; exact q0 hq (by omega)
  · simp only [Int32.lt_iff_toInt_lt, Int32.le_iff_toInt_le, ← Int32.toInt_inj, iv_m9, iv_m3, iv_m2, iv_m1, iv_0, iv_1, iv_2, iv_3, iv_4, iv_5, iv_6, iv_7, iv_8, iv_9, iv_32, iv_40, iv_99, iv_100, iv_400] at h h2; exact q0 hq (by omega)
  · simp only [Int32.lt_iff_toInt_lt, Int32.le_iff_toInt_le, ← Int32.toInt_inj, iv_m9, iv_m3, iv_m2, iv_m1, iv_0, iv_1, iv_2, iv_3, iv_4, iv_5, iv_6, iv_7, iv_8, iv_9, iv_32, iv_40, iv_99, iv_100, iv_400] at h h2; exact q1 hq (by omega)
theorem R_one {E : EV} {Q : Sg → Int32 → Prop} {σ : Sg} {n : Nat} {a : Int32} (hn : gm σ 42 0 = nI n) (hb : n ≤ 8) (hq : Q σ (bi (0 ≤ a.toInt ∧ a.toInt < (n : Int)))) : MetI E mi_X6_isOne [.ref 40, .int a] σ Q := by
  refine M_X6_isOne (R_in ?_)
  have e : ((gm σ 42 0) - 1).toInt = (n : Int) - 1 := by rw [hn, show (1 : Int32) = nI 1 from rfl, pk_sub_toInt (by omega) (by omega)]; rfl
  have e2 : bi ((0 : Int32).toInt ≤ a.toInt ∧ a.toInt ≤ ((gm σ 42 0) - 1).toInt) = bi (0 ≤ a.toInt ∧ a.toInt < (n : Int)) := bi_c (by rw [e, iv_0]; omega)
  rw [e2]
  exact ⟨bi_01, hq⟩
theorem R_thing {E : EV} {Q : Sg → Int32 → Prop} {σ : Sg} {a : Int32} (hq : Q σ (bi (0 ≤ a.toInt ∧ a.toInt < 4))) : MetI E mi_X6_isThing [.int a] σ Q := by
  refine M_X6_isThing (R_in ?_)
  have e2 : bi ((0 : Int32).toInt ≤ a.toInt ∧ a.toInt ≤ ((3 : Int32)).toInt) = bi (0 ≤ a.toInt ∧ a.toInt < 4) := bi_c (by rw [iv_0, iv_3]; omega)
  have e3 : bi ((0 : Int32).toInt ≤ a.toInt ∧ a.toInt ≤ ((4 : Int32) - (1 : Int32)).toInt) = bi (0 ≤ a.toInt ∧ a.toInt < 4) := by rw [show (4 : Int32) - 1 = 3 by decide]; exact e2
  first
    | (rw [e2]; exact ⟨bi_01, hq⟩)
    | (rw [e3]; exact ⟨bi_01, hq⟩)
theorem mul40 (r k : Nat) : (40 : Int32) * nI r + nI k = nI (40 * r + k) := by rw [show (40 : Int32) = nI 40 from rfl, pk_mul, nI_add]
theorem R_maybes {E : EV} {Q : Sg → Int32 → Prop} {σ : Sg} {r : Nat} {t : Tl} (h : EvM σ r t) (hr : r < 4) (hL : t.1.length ≤ 40) (ho : ∀ k, k < t.1.length → (ge t.1 k).1 < 2 ^ 31) (hq : Q σ (nI (mc t.1))) : MetI E mi_X6_maybesIn [.ref 40, .int (nI r)] σ Q := by
  have go : ∀ (j k : Nat), k + j = t.1.length → K_X6_maybesIn_4 E Q σ (nI r) (nI (mc (t.1.take k))) (nI k) := by
    intro j
    induction j with
    | zero =>
      intro k hk
      refine B_X6_maybesIn_4 ⟨vpn hr (by omega), fun q => ?_, fun q => ?_⟩
      · rw [show t.1.take k = t.1 by rw [show k = t.1.length by omega, List.take_length]]; exact hq
      · rw [cl (by omega), h.1] at q; exact absurd (nI_le (by omega) (by omega)) q
    | succ j ih =>
      intro k hk
      refine B_X6_maybesIn_4 ⟨vpn hr (by omega), fun q => ?_, fun q => ?_⟩
      · rw [cl (by omega), h.1] at q; exact absurd q (nI_ge (by omega) (by omega))
      · rw [mul40]
        have hs := (h.2.2 k (by omega)).1
        have hm := mc_step (l := t.1) (k := k) (by omega)
        refine ⟨vpn (by omega) (by omega), fun q2 => ?_, fun q2 => ?_⟩
        · rw [cl (by omega), hs] at q2
          have : (ge t.1 k).1 ≠ 1 := by intro z; apply q2; rw [z]; rfl
          rw [if_neg this] at hm
          rw [show nI (mc (t.1.take k)) + 0 = nI (mc (t.1.take (k + 1))) by rw [hm, Int32.add_zero]; rfl, nI_1]
          exact ih (k + 1) (by omega)
        · rw [cl (by omega), hs] at q2
          have : (ge t.1 k).1 = 1 := inj_nI (ho k (by omega)) (by omega) q2
          rw [if_pos this] at hm
          rw [show nI (mc (t.1.take k)) + 1 = nI (mc (t.1.take (k + 1))) by rw [hm, nI_1], nI_1]
          exact ih (k + 1) (by omega)
  refine M_X6_maybesIn ?_
  have := go t.1.length 0 (by omega)
  rw [List.take_zero, mc_nil] at this
  exact this
theorem okE_s {n : Nat} {t : Tl} (h : okTl n t) : ∀ k, k < t.1.length → (ge t.1 k).1 < 2 ^ 31 := fun k hk => by have := (ev_ge h hk).1; omega
theorem R_event {E : EV} {Q : Sg → Int32 → Prop} {σ : Sg} {A : Ab} {k w : Int32} (h : RepM σ A) (g : Good A) (hq : Q σ (S_event A k w)) : MetI E mi_X6_event [.ref 40, .int k, .int w] σ Q := by
  obtain ⟨-, ⟨h1, h2, hk⟩, -⟩ := h
  have hL := g.2.1.1
  have e : ((gm σ 44 0) - 1).toInt = (A.2.1.1.length : Int) - 1 := by rw [h1, show (1 : Int32) = nI 1 from rfl, pk_sub_toInt (by omega) (by omega)]; rfl
  refine M_X6_event (R_in ⟨fun r => ?_, fun r => R_in ⟨fun r2 => ?_, fun r2 => ?_⟩⟩)
  · rw [bi_0, e, iv_0] at r; rw [S_event, if_neg (by omega)] at hq; exact hq
  · rw [bi_n0, e, iv_0] at r
    rw [bi_n0, iv_0, iv_3] at r2
    obtain ⟨n, hn, rfl, en⟩ := ge0 (x := k) (by omega)
    have ok := hk n (by omega)
    simp only [Nat.mul_zero, Nat.zero_add] at ok
    rw [S_event, if_pos (by omega), cl hn] at hq
    rw [cl hn]
    refine ⟨fun q => ⟨fun q2 => ⟨fun q3 => ⟨vpn (by omega) (by omega), ?_⟩, fun q3 => ⟨vpn (by omega) (by omega), ?_⟩⟩, fun q2 => ⟨vpn (by omega) (by omega), ?_⟩⟩, fun q => ⟨vpn (by omega) (by omega), ?_⟩⟩
    · simp only [Int32.lt_iff_toInt_lt, Int32.le_iff_toInt_le, ← Int32.toInt_inj, iv_m9, iv_m3, iv_m2, iv_m1, iv_0, iv_1, iv_2, iv_3, iv_4, iv_5, iv_6, iv_7, iv_8, iv_9, iv_32, iv_40, iv_99, iv_100, iv_400] at q q2 q3; rw [if_neg (by omega), if_neg (by omega), if_neg (by omega), if_pos (by omega)] at hq; rw [ok.2.2.2]; exact hq
    · simp only [Int32.lt_iff_toInt_lt, Int32.le_iff_toInt_le, ← Int32.toInt_inj, iv_m9, iv_m3, iv_m2, iv_m1, iv_0, iv_1, iv_2, iv_3, iv_4, iv_5, iv_6, iv_7, iv_8, iv_9, iv_32, iv_40, iv_99, iv_100, iv_400] at q q2 q3; rw [if_neg (by omega), if_neg (by omega), if_pos (by omega)] at hq; rw [ok.2.2.1]; exact hq
    · simp only [Int32.lt_iff_toInt_lt, Int32.le_iff_toInt_le, ← Int32.toInt_inj, iv_m9, iv_m3, iv_m2, iv_m1, iv_0, iv_1, iv_2, iv_3, iv_4, iv_5, iv_6, iv_7, iv_8, iv_9, iv_32, iv_40, iv_99, iv_100, iv_400] at q q2; rw [if_neg (by omega), if_pos (by omega)] at hq; rw [ok.2.1]; exact hq
    · simp only [Int32.lt_iff_toInt_lt, Int32.le_iff_toInt_le, ← Int32.toInt_inj, iv_m9, iv_m3, iv_m2, iv_m1, iv_0, iv_1, iv_2, iv_3, iv_4, iv_5, iv_6, iv_7, iv_8, iv_9, iv_32, iv_40, iv_99, iv_100, iv_400] at q; rw [if_pos (by omega)] at hq; rw [ok.1]; exact hq
  · rw [bi_n0, e, iv_0] at r
    rw [bi_0, iv_0, iv_3] at r2
    rw [S_event, if_pos (by omega), if_neg (by omega), if_neg (by omega), if_neg (by omega), if_neg (by omega)] at hq
    exact hq
/-- what the reference holds besides its EVENTS, behind writes to the rows -/
theorem EvM.row {σ τ : Sg} {r : Nat} {t : Tl} (h : EvM σ r t) (hL : t.1.length ≤ 40) (e1 : gm τ 44 r = gm σ 44 r) (e2 : gm τ 45 r = gm σ 45 r) (e3 : ∀ k, k < 40 → gm τ 46 (40 * r + k) = gm σ 46 (40 * r + k) ∧ gm τ 47 (40 * r + k) = gm σ 47 (40 * r + k) ∧ gm τ 48 (40 * r + k) = gm σ 48 (40 * r + k) ∧ gm τ 49 (40 * r + k) = gm σ 49 (40 * r + k)) : EvM τ r t :=
  ⟨e1.trans h.1, e2.trans h.2.1, fun k hk => by
    obtain ⟨g1, g2, g3, g4⟩ := e3 k (by omega)
    rw [g1, g2, g3, g4]
    exact h.2.2 k hk⟩
/-- only row r of the EVENTS has changed -/
def RowOnly (r : Nat) (σ τ : Sg) : Prop := (∀ k, gi τ k = gi σ k) ∧ (∀ k, gl τ k = gl σ k) ∧ (∀ a, (a < 44 ∨ 49 < a) → gm τ a = gm σ a) ∧ (∀ a, (a = 44 ∨ a = 45) → ∀ j, j ≠ r → gm τ a j = gm σ a j) ∧ ∀ a, (46 ≤ a ∧ a ≤ 49) → ∀ j, (j < 40 * r ∨ 40 * r + 40 ≤ j) → gm τ a j = gm σ a j
theorem RowOnly.rf {r : Nat} {σ : Sg} : RowOnly r σ σ := ⟨fun _ => rfl, fun _ => rfl, fun _ _ => rfl, fun _ _ _ _ => rfl, fun _ _ _ _ => rfl⟩
theorem RowOnly.lo {r : Nat} {σ τ : Sg} {a : Nat} {v : Int32} (h : RowOnly r σ τ) (ha : a = 44 ∨ a = 45) : RowOnly r σ (sm τ a r v) := by
  refine ⟨h.1, h.2.1, fun b hb => by rw [gm_sm_n (by omega)]; exact h.2.2.1 b hb, fun b hb j hj => ?_, fun b hb j hj => by rw [gm_sm_n (by omega)]; exact h.2.2.2.2 b hb j hj⟩
  by_cases e : b = a
  · subst e; rw [gm_sm_s, upd_n hj]; exact h.2.2.2.1 b hb j hj
  · rw [gm_sm_n e]; exact h.2.2.2.1 b hb j hj
theorem RowOnly.hi {r k : Nat} {σ τ : Sg} {a : Nat} {v : Int32} (h : RowOnly r σ τ) (ha : 46 ≤ a ∧ a ≤ 49) (hk : k < 40) : RowOnly r σ (sm τ a (40 * r + k) v) := by
  refine ⟨h.1, h.2.1, fun b hb => by rw [gm_sm_n (by omega)]; exact h.2.2.1 b hb, fun b hb j hj => by rw [gm_sm_n (by omega)]; exact h.2.2.2.1 b hb j hj, fun b hb j hj => ?_⟩
  by_cases e : b = a
  · subst e; rw [gm_sm_s, upd_n (by omega)]; exact h.2.2.2.2 b hb j hj
  · rw [gm_sm_n e]; exact h.2.2.2.2 b hb j hj
theorem RowOnly.fr {r : Nat} {σ τ : Sg} (h : RowOnly r σ τ) : Fr 40 57 σ τ := ⟨fun k _ => h.1 k, fun k _ => h.2.1 k, fun a q => h.2.2.1 a (by omega)⟩
theorem RowOnly.ev {r r2 : Nat} {σ τ : Sg} {t : Tl} (h : RowOnly r σ τ) (e : EvM σ r2 t) (hL : t.1.length ≤ 40) (hn : r2 ≠ r) : EvM τ r2 t :=
  e.row hL (h.2.2.2.1 44 (by omega) r2 hn) (h.2.2.2.1 45 (by omega) r2 hn) (fun k hk => ⟨h.2.2.2.2 46 (by omega) _ (by omega), h.2.2.2.2 47 (by omega) _ (by omega), h.2.2.2.2 48 (by omega) _ (by omega), h.2.2.2.2 49 (by omega) _ (by omega)⟩)
theorem ImM.row {r i : Nat} {σ τ : Sg} {u : Option Tl} (h : ImM σ i u) (f : RowOnly r σ τ) (hL : ∀ t, u = some t → t.1.length ≤ 40) (hn : r ≠ 2 + i) : ImM τ i u := by
  cases u with
  | none => show gm τ 50 i = 0; rw [f.2.2.1 50 (by omega)]; exact h
  | some t => exact ⟨by rw [f.2.2.1 50 (by omega)]; exact h.1, f.ev h.2 (hL t rfl) (fun z => hn z.symm)⟩
theorem RepM.row {σ τ : Sg} {A : Ab} {t : Tl} (h : RepM σ A) (g : Good A) (f : RowOnly 0 σ τ) (e : EvM τ 0 t) : RepM τ (withT A t) := by
  obtain ⟨⟨h1, h1b⟩, h2, ⟨h3, h3b⟩, h4, h5, h6⟩ := h
  exact ⟨⟨by rw [f.2.2.1 42 (by omega)]; exact h1, fun k hk => by rw [f.2.2.1 43 (by omega)]; exact h1b k hk⟩, e, ⟨by rw [f.1]; exact h3, fun k hk => by rw [f.2.2.1 41 (by omega)]; exact h3b k hk⟩, h4.row f (fun t ht => (g.2.2.2.1 t ht).1) (by omega), h5.row f (fun t ht => (g.2.2.2.2 t ht).1) (by omega), by rw [f.2.1]; exact h6.1, by rw [TI, f.1]; exact h6.2⟩
theorem R_comes {E : EV} {Q : Sg → Int32 → Prop} {σ : Sg} {A : Ab} {s a b : Int32} (h : RepM σ A) (g : Good A) (hq : ∀ τ, Fr 40 57 σ τ → RepM τ (S_comes A s a b).2 → Q τ (S_comes A s a b).1) : MetI E mi_X6_comes [.ref 40, .int s, .int a, .int b] σ Q := by
  have hP := g.1.1
  have hL := g.2.1.1
  have hM := g.2.1.2.1
  have h1 := h.1.1
  have h2 := h.2.1
  have a44 : gm σ 44 0 = nI A.2.1.1.length := h2.1
  have a45 : gm σ 45 0 = nI A.2.1.2 := h2.2.1
  have bad : ¬ comOk A.1.length s a b → Q σ (-1) := fun z => by
    have := hq σ Fr.rf
    rw [S_comes, if_neg z] at this
    exact this h
  have full : comOk A.1.length s a b → (A.2.1.1.length = 40 ∨ (s.toInt = 1 ∧ mc A.2.1.1 = 6)) → Q σ (-3) := fun z y => by
    have := hq σ Fr.rf
    rw [S_comes, if_pos z, if_pos y] at this
    exact this h
  have eL := nIt (n := A.2.1.1.length) (by omega)
  have eM := nIt (n := mc A.2.1.1) (by omega)
  have add : comOk A.1.length s a b → ¬ (A.2.1.1.length = 40 ∨ (s.toInt = 1 ∧ mc A.2.1.1 = 6)) → K_X6_comes_90 E Q σ s a b 1 := by
    intro ok nf
    obtain ⟨⟨o1, o2⟩, o3, o4, o5⟩ := ok
    obtain ⟨s', hs, rfl, es⟩ := ge0 (x := s) (by omega)
    obtain ⟨a', ha, rfl, ea⟩ := ge0 (x := a) o3.1
    obtain ⟨b', hb, rfl, eb⟩ := ge0 (x := b) (by
      rcases Nat.lt_or_ge 1 s' with z | z
      · exact (o5 (by omega)).1
      · exact (o4 (by omega)).1.1)
    refine B_X6_comes_90 ⟨by rw [a44]; exact vpn (by omega) (by omega), ?_⟩
    rw [a44, cl (by omega), a45, nI_1]
    have f := RowOnly.lo (a := 44) (v := nI (A.2.1.1.length + 1)) (RowOnly.hi (a := 49) (k := A.2.1.1.length) (v := nI b') (RowOnly.hi (a := 48) (k := A.2.1.1.length) (v := nI a') (RowOnly.hi (a := 47) (k := A.2.1.1.length) (v := nI A.2.1.2) (RowOnly.hi (a := 46) (k := A.2.1.1.length) (v := nI s') (RowOnly.rf (r := 0) (σ := σ)) (by omega) (by omega)) (by omega) (by omega)) (by omega) (by omega)) (by omega) (by omega)) (Or.inl rfl)
    simp only [Nat.mul_zero, Nat.zero_add] at f
    have hh := hq _ f.fr
    rw [S_comes, if_pos ⟨⟨o1, o2⟩, o3, o4, o5⟩, if_neg nf, cl hs, cl ha, cl hb] at hh
    refine hh (h.row g f ⟨?_, a45, fun k hk => ?_⟩)
    · rw [gm_sm_s, upd_s]; show _ = nI (A.2.1.1 ++ [_]).length; rw [List.length_append]; rfl
    · have hk : k < A.2.1.1.length + 1 := by have := hk; rw [List.length_append] at this; exact this
      rw [Nat.mul_zero, Nat.zero_add]
      show upd (gm σ 46) _ _ k = nI (ge (A.2.1.1 ++ [_]) k).1 ∧ upd (gm σ 47) _ _ k = nI (ge (A.2.1.1 ++ [_]) k).2.1 ∧ upd (gm σ 48) _ _ k = nI (ge (A.2.1.1 ++ [_]) k).2.2.1 ∧ upd (gm σ 49) _ _ k = nI (ge (A.2.1.1 ++ [_]) k).2.2.2
      rcases Nat.lt_or_ge k A.2.1.1.length with q | q
      · rw [upd_n (by omega), upd_n (by omega), upd_n (by omega), upd_n (by omega), ge_app q]
        have := h2.2.2 k q
        simp only [Nat.mul_zero, Nat.zero_add] at this
        exact this
      · obtain rfl : k = A.2.1.1.length := by omega
        rw [upd_s, upd_s, upd_s, upd_s, ge_last]
        exact ⟨rfl, rfl, rfl, rfl⟩
  have mid : comOk A.1.length s a b → K_X6_comes_61 E Q σ s a b 1 := by
    intro ok
    refine B_X6_comes_61 ⟨fun q => ?_, fun q => ⟨fun q2 => ?_, fun q2 => R_maybes (r := 0) h2 (by omega) hL (okE_s g.2.1) ⟨fun q3 => ?_, fun q3 => ?_⟩⟩⟩
    · rw [a44] at q; simp only [Int32.lt_iff_toInt_lt, Int32.le_iff_toInt_le, ← Int32.toInt_inj, iv_m9, iv_m3, iv_m2, iv_m1, iv_0, iv_1, iv_2, iv_3, iv_4, iv_5, iv_6, iv_7, iv_8, iv_9, iv_32, iv_40, iv_99, iv_100, iv_400, eL] at q; exact full ok (Or.inl (by omega))
    · rw [a44] at q; simp only [Int32.lt_iff_toInt_lt, Int32.le_iff_toInt_le, ← Int32.toInt_inj, iv_m9, iv_m3, iv_m2, iv_m1, iv_0, iv_1, iv_2, iv_3, iv_4, iv_5, iv_6, iv_7, iv_8, iv_9, iv_32, iv_40, iv_99, iv_100, iv_400, eL] at q q2; exact add ok (by omega)
    · rw [a44] at q; simp only [Int32.lt_iff_toInt_lt, Int32.le_iff_toInt_le, ← Int32.toInt_inj, iv_m9, iv_m3, iv_m2, iv_m1, iv_0, iv_1, iv_2, iv_3, iv_4, iv_5, iv_6, iv_7, iv_8, iv_9, iv_32, iv_40, iv_99, iv_100, iv_400, eL, eM] at q q2 q3; exact add ok (by omega)
    · rw [a44] at q; simp only [Int32.lt_iff_toInt_lt, Int32.le_iff_toInt_le, ← Int32.toInt_inj, iv_m9, iv_m3, iv_m2, iv_m1, iv_0, iv_1, iv_2, iv_3, iv_4, iv_5, iv_6, iv_7, iv_8, iv_9, iv_32, iv_40, iv_99, iv_100, iv_400, eL, eM] at q q2 q3; exact full ok (Or.inr (by omega))
  refine M_X6_comes (R_in ⟨fun r => ?_, fun r => R_one h1 hP ⟨fun r2 => ?_, fun r2 => ⟨fun q => R_in ⟨fun r3 => ?_, fun r3 => ?_⟩, fun q => R_one h1 hP ⟨fun r3 => ?_, fun r3 => ⟨fun q2 => ?_, fun q2 => ?_⟩⟩⟩⟩⟩)
  · rw [bi_0, iv_0, iv_4] at r; exact bad (fun z => r z.1)
  · rw [bi_0] at r2; exact bad (fun z => r2 z.2.1)
  · rw [bi_0, iv_0, iv_3] at r3; simp only [Int32.lt_iff_toInt_lt, Int32.le_iff_toInt_le, ← Int32.toInt_inj, iv_m9, iv_m3, iv_m2, iv_m1, iv_0, iv_1, iv_2, iv_3, iv_4, iv_5, iv_6, iv_7, iv_8, iv_9, iv_32, iv_40, iv_99, iv_100, iv_400] at q; exact bad (fun z => by have := z.2.2.2 (by omega); omega)
  · rw [bi_n0, iv_0, iv_4] at r; rw [bi_n0] at r2; rw [bi_n0, iv_0, iv_3] at r3; simp only [Int32.lt_iff_toInt_lt, Int32.le_iff_toInt_le, ← Int32.toInt_inj, iv_m9, iv_m3, iv_m2, iv_m1, iv_0, iv_1, iv_2, iv_3, iv_4, iv_5, iv_6, iv_7, iv_8, iv_9, iv_32, iv_40, iv_99, iv_100, iv_400] at q; exact mid ⟨r, r2, fun z => by omega, fun z => by omega⟩
  · rw [bi_0] at r3; simp only [Int32.lt_iff_toInt_lt, Int32.le_iff_toInt_le, ← Int32.toInt_inj, iv_m9, iv_m3, iv_m2, iv_m1, iv_0, iv_1, iv_2, iv_3, iv_4, iv_5, iv_6, iv_7, iv_8, iv_9, iv_32, iv_40, iv_99, iv_100, iv_400] at q; exact bad (fun z => r3 (z.2.2.1 (by omega)).1)
  · rw [bi_n0] at r3; simp only [Int32.lt_iff_toInt_lt, Int32.le_iff_toInt_le, ← Int32.toInt_inj, iv_m9, iv_m3, iv_m2, iv_m1, iv_0, iv_1, iv_2, iv_3, iv_4, iv_5, iv_6, iv_7, iv_8, iv_9, iv_32, iv_40, iv_99, iv_100, iv_400] at q q2; exact bad (fun z => (z.2.2.1 (by omega)).2 (by omega))
  · rw [bi_n0, iv_0, iv_4] at r; rw [bi_n0] at r2; rw [bi_n0] at r3; simp only [Int32.lt_iff_toInt_lt, Int32.le_iff_toInt_le, ← Int32.toInt_inj, iv_m9, iv_m3, iv_m2, iv_m1, iv_0, iv_1, iv_2, iv_3, iv_4, iv_5, iv_6, iv_7, iv_8, iv_9, iv_32, iv_40, iv_99, iv_100, iv_400] at q q2; exact mid ⟨r, r2, fun z => ⟨r3, fun y => q2 (by omega)⟩, fun z => by omega⟩
