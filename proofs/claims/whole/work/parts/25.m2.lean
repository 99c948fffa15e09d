theorem R_days {E : EV} {Q : Sg → Int32 → Prop} {σ : Sg} {A : Ab} {n : Int32} (h : RepM σ A) (g : Good A) (hq : ∀ τ, Fr 40 57 σ τ → RepM τ (S_days A n).2 → Q τ (S_days A n).1) : MetI E mi_X6_days [.ref 40, .int n] σ Q := by
  have a45 : gm σ 45 0 = nI A.2.1.2 := h.2.1.2.1
  have hT := g.2.1.2.2.1
  refine M_X6_days (R_in ⟨fun r => ?_, fun r => ?_⟩)
  · rw [bi_n0, iv_1, iv_99] at r
    obtain ⟨m, hm, rfl, em⟩ := ge0 (x := n) (by omega)
    have es : (nI (A.2.1.2 + m)).toInt = ((A.2.1.2 + m : Nat) : Int) := nIt (by omega)
    rw [a45, nI_add]
    refine ⟨fun q3 => ?_, fun q3 => ?_⟩
    · simp only [Int32.lt_iff_toInt_lt, Int32.le_iff_toInt_le, ← Int32.toInt_inj, iv_m9, iv_m3, iv_m2, iv_m1, iv_0, iv_1, iv_2, iv_3, iv_4, iv_5, iv_6, iv_7, iv_8, iv_9, iv_32, iv_40, iv_99, iv_100, iv_400, es] at q3
      have f := RowOnly.lo (a := 45) (v := nI (A.2.1.2 + m)) (RowOnly.rf (r := 0) (σ := σ)) (Or.inr rfl)
      have hh := hq _ f.fr
      rw [S_days, if_pos (by omega), cl hm, if_pos (by omega)] at hh
      rw [gm_sm_s, upd_s]
      exact hh (h.row g f ⟨h.2.1.1, by rw [gm_sm_s, upd_s], h.2.1.2.2⟩)
    · simp only [Int32.lt_iff_toInt_lt, Int32.le_iff_toInt_le, ← Int32.toInt_inj, iv_m9, iv_m3, iv_m2, iv_m1, iv_0, iv_1, iv_2, iv_3, iv_4, iv_5, iv_6, iv_7, iv_8, iv_9, iv_32, iv_40, iv_99, iv_100, iv_400, es] at q3
      have hh := hq σ Fr.rf
      rw [S_days, if_pos (by omega), cl hm, if_neg (by omega)] at hh
      exact hh h
  · rw [bi_0, iv_1, iv_99] at r
    have := hq σ Fr.rf
    rw [S_days, if_neg (by omega)] at this
    exact this h
theorem R_undo {E : EV} {Q : Sg → Int32 → Prop} {σ : Sg} {A : Ab} (h : RepM σ A) (g : Good A) (hq : ∀ τ, Fr 40 57 σ τ → RepM τ (S_undo A).2 → Q τ (S_undo A).1) : MetI E mi_X6_undo [.ref 40] σ Q := by
  have a44 : gm σ 44 0 = nI A.2.1.1.length := h.2.1.1
  have hL := g.2.1.1
  have eL := nIt (n := A.2.1.1.length) (by omega)
  refine M_X6_undo ⟨fun q => ?_, fun q => ?_⟩
  · rw [a44] at q; simp only [Int32.lt_iff_toInt_lt, Int32.le_iff_toInt_le, ← Int32.toInt_inj, iv_m9, iv_m3, iv_m2, iv_m1, iv_0, iv_1, iv_2, iv_3, iv_4, iv_5, iv_6, iv_7, iv_8, iv_9, iv_32, iv_40, iv_99, iv_100, iv_400, eL] at q
    have hl : 0 < A.2.1.1.length := by omega
    have es : nI A.2.1.1.length - 1 = nI (A.2.1.1.length - 1) := by rw [show A.2.1.1.length = (A.2.1.1.length - 1) + 1 by omega, nI_pred]; rfl
    rw [a44, es, gm_sm_s, upd_s]
    have f := RowOnly.lo (a := 44) (v := nI (A.2.1.1.length - 1)) (RowOnly.rf (r := 0) (σ := σ)) (Or.inl rfl)
    have hh := hq _ f.fr
    rw [S_undo, if_neg (by omega)] at hh
    have e1 : (A.2.1.1.take (A.2.1.1.length - 1)).length = A.2.1.1.length - 1 := by rw [List.length_take]; omega
    refine hh (h.row g f ⟨by rw [gm_sm_s, upd_s]; show _ = nI (A.2.1.1.take (A.2.1.1.length - 1)).length; rw [e1], h.2.1.2.1, fun k hk => ?_⟩)
    have hk : k < A.2.1.1.length - 1 := by rw [← e1]; exact hk
    show gm σ 46 _ = nI (ge (A.2.1.1.take (A.2.1.1.length - 1)) k).1 ∧ gm σ 47 _ = nI (ge (A.2.1.1.take (A.2.1.1.length - 1)) k).2.1 ∧ gm σ 48 _ = nI (ge (A.2.1.1.take (A.2.1.1.length - 1)) k).2.2.1 ∧ gm σ 49 _ = nI (ge (A.2.1.1.take (A.2.1.1.length - 1)) k).2.2.2
    rw [ge_take hk]
    exact h.2.1.2.2 k (by omega)
  · rw [a44] at q; simp only [Int32.lt_iff_toInt_lt, Int32.le_iff_toInt_le, ← Int32.toInt_inj, iv_m9, iv_m3, iv_m2, iv_m1, iv_0, iv_1, iv_2, iv_3, iv_4, iv_5, iv_6, iv_7, iv_8, iv_9, iv_32, iv_40, iv_99, iv_100, iv_400, eL] at q
    have hh := hq σ Fr.rf
    rw [S_undo, if_pos (by omega)] at hh
    exact hh h
/-- the first n of row s stand in row d too -/
def Cp (s d n : Nat) (τ : Sg) : Prop := ∀ k, k < n → gm τ 46 (40 * d + k) = gm τ 46 (40 * s + k) ∧ gm τ 47 (40 * d + k) = gm τ 47 (40 * s + k) ∧ gm τ 48 (40 * d + k) = gm τ 48 (40 * s + k) ∧ gm τ 49 (40 * d + k) = gm τ 49 (40 * s + k)
theorem R_copy {E : EV} {Q : Sg → Prop} {σ : Sg} {s d : Nat} {t : Tl} (h : EvM σ s t) (hs : s < 4) (hd : d < 4) (hn : s ≠ d) (hL : t.1.length ≤ 40) (hq : ∀ τ, RowOnly d σ τ → EvM τ d t → Q τ) : MetV E mi_X6_copy [.ref 40, .int (nI s), .int (nI d)] σ Q := by
  have go : ∀ (j k : Nat) (τ : Sg), k + j = 40 → RowOnly d σ τ → gm τ 44 d = gm σ 44 s → gm τ 45 d = gm σ 45 s → Cp s d k τ → K_X6_copy_26 E Q τ (nI s) (nI d) (nI k) := by
    intro j
    induction j with
    | zero =>
      intro k τ hk f e4 e5 cp
      obtain rfl : k = 40 := by omega
      refine B_X6_copy_26 ⟨fun _ => hq τ f ⟨e4.trans h.1, e5.trans h.2.1, fun k hk => ?_⟩, fun q => absurd (by decide) q⟩
      obtain ⟨g1, g2, g3, g4⟩ := cp k (by omega)
      rw [g1, g2, g3, g4]
      exact (f.ev h hL hn).2.2 k hk
    | succ j ih =>
      intro k τ hk f e4 e5 cp
      refine B_X6_copy_26 ⟨fun q => absurd q (nI_ge (a := k) (b := 40) (by omega) (by omega)), fun _ => ?_⟩
      rw [mul40, mul40, nI_1, cl (n := 40 * d + k) (by omega), cl (n := 40 * s + k) (by omega)]
      refine ⟨vpn (by omega) (by omega), vpn (by omega) (by omega), ?_⟩
      refine ih (k + 1) _ (by omega) (RowOnly.hi (RowOnly.hi (RowOnly.hi (RowOnly.hi f (by omega) (by omega)) (by omega) (by omega)) (by omega) (by omega)) (by omega) (by omega)) e4 e5 (fun i hi => ?_)
      show upd (gm τ 46) _ _ _ = upd (gm τ 46) _ _ _ ∧ upd (gm τ 47) _ _ _ = upd (gm τ 47) _ _ _ ∧ upd (gm τ 48) _ _ _ = upd (gm τ 48) _ _ _ ∧ upd (gm τ 49) _ _ _ = upd (gm τ 49) _ _ _
      have hx : 40 * s + i ≠ 40 * d + k := by omega
      rw [upd_n (f := gm τ 46) hx, upd_n (f := gm τ 47) hx, upd_n (f := gm τ 48) hx, upd_n (f := gm τ 49) hx]
      rcases Nat.lt_or_ge i k with q | q
      · have hy : 40 * d + i ≠ 40 * d + k := by omega
        rw [upd_n hy, upd_n hy, upd_n hy, upd_n hy]
        exact cp i q
      · obtain rfl : i = k := by omega
        rw [upd_s, upd_s, upd_s, upd_s]
        exact ⟨rfl, rfl, rfl, rfl⟩
  refine M_X6_copy ⟨vpn hs (by omega), vpn hd (by omega), ?_⟩
  rw [cl (by omega), cl (by omega)]
  refine go 40 0 _ rfl (RowOnly.lo (RowOnly.lo RowOnly.rf (Or.inl rfl)) (Or.inr rfl)) ?_ ?_ (fun k hk => absurd hk (by omega))
  · show upd (gm σ 44) d _ d = _; rw [upd_s]
  · show upd (gm σ 45) d _ d = _; rw [upd_s]
theorem RepM.img {σ τ : Sg} {A : Ab} (h : RepM σ A) (g : Good A) {i : Nat} (hi : i < 2) (f : RowOnly (2 + i) σ τ) : FoM τ A.1 ∧ EvM τ 0 A.2.1 ∧ TxM τ A.2.2.1 ∧ gl τ 4000 = A.2.2.2.2.2 ∧ TI τ := by
  obtain ⟨⟨h1, h1b⟩, h2, ⟨h3, h3b⟩, h4, h5, h6⟩ := h
  exact ⟨⟨by rw [f.2.2.1 42 (by omega)]; exact h1, fun k hk => by rw [f.2.2.1 43 (by omega)]; exact h1b k hk⟩, f.ev h2 g.2.1.1 (by omega), ⟨by rw [f.1]; exact h3, fun k hk => by rw [f.2.2.1 41 (by omega)]; exact h3b k hk⟩, by rw [f.2.1]; exact h6.1, by rw [TI, f.1]; exact h6.2⟩
theorem bool1 : vp_nar .boolean (1 : Int32) = 1 := by decide
theorem EvM.sm50 {τ : Sg} {r j : Nat} {v : Int32} {t : Tl} (h : EvM τ r t) : EvM (sm τ 50 j v) r t := h
theorem ImM.sm50 {τ : Sg} {i j : Nat} {v : Int32} {u : Option Tl} (h : ImM τ i u) (hj : i ≠ j) : ImM (sm τ 50 j v) i u := by
  cases u with
  | none => show upd (gm τ 50) j v i = 0; rw [upd_n hj]; exact h
  | some u => exact ⟨by show upd (gm τ 50) j v i = 1; rw [upd_n hj]; exact h.1, h.2.sm50⟩
theorem R_keep {E : EV} {Q : Sg → Int32 → Prop} {σ : Sg} {A : Ab} {i : Int32} (h : RepM σ A) (g : Good A) (hq : ∀ τ, Fr 40 57 σ τ → RepM τ (S_keep A i).2 → Q τ (S_keep A i).1) : MetI E mi_X6_keep [.ref 40, .int i] σ Q := by
  have hL := g.2.1.1
  refine M_X6_keep (R_in ⟨fun r => ?_, fun r => ?_⟩)
  · rw [bi_n0, iv_0, iv_1] at r
    obtain ⟨m, hm, rfl, em⟩ := ge0 (x := i) (by omega)
    rw [show (2 : Int32) + nI m = nI (2 + m) from nI_add 2 m]
    refine R_copy (s := 0) h.2.1 (by omega) (by omega) (by omega) hL (fun τ f e => ⟨vpn (by omega) (by omega), ?_⟩)
    rw [cl hm, bool1]
    obtain ⟨k1, k2, k3, k6⟩ := h.img g (by omega) f
    rw [show gm τ 44 0 = nI A.2.1.1.length from k2.1]
    have hh := hq (sm τ 50 m 1) (f.fr.sm (by omega) (by omega))
    rcases (show m = 0 ∨ m = 1 by omega) with rfl | rfl
    · rw [S_keep, if_pos (by omega)] at hh
      exact hh ⟨k1, k2.sm50, k3, ⟨rfl, e.sm50⟩, (h.2.2.2.2.1.row f (fun t ht => (g.2.2.2.2 t ht).1) (by omega)).sm50 (by omega), k6⟩
    · rw [S_keep, if_neg (by omega), if_pos (by omega)] at hh
      exact hh ⟨k1, k2.sm50, k3, (h.2.2.2.1.row f (fun t ht => (g.2.2.2.1 t ht).1) (by omega)).sm50 (by omega), ⟨rfl, e.sm50⟩, k6⟩
  · rw [bi_0, iv_0, iv_1] at r
    have hh := hq σ Fr.rf
    rw [S_keep, if_neg (by omega), if_neg (by omega)] at hh
    exact hh h
theorem R_back {E : EV} {Q : Sg → Int32 → Prop} {σ : Sg} {A : Ab} {i : Int32} (h : RepM σ A) (g : Good A) (hq : ∀ τ, Fr 40 57 σ τ → RepM τ (S_back A i).2 → Q τ (S_back A i).1) : MetI E mi_X6_back [.ref 40, .int i] σ Q := by
  refine M_X6_back (R_in ⟨fun r => ?_, fun r => ?_⟩)
  · rw [bi_n0, iv_0, iv_1] at r
    obtain ⟨m, hm, rfl, em⟩ := ge0 (x := i) (by omega)
    rw [show (2 : Int32) + nI m = nI (2 + m) from nI_add 2 m, cl hm]
    obtain ⟨u, hu, hi, hg⟩ : ∃ u, ImM σ m u ∧ S_back A (nI m) = S_backI A u ∧ ∀ t, u = some t → okTl A.1.length t := by
      rcases (show m = 0 ∨ m = 1 by omega) with rfl | rfl
      · exact ⟨_, h.2.2.2.1, by rw [S_back, if_pos (by omega)], g.2.2.2.1⟩
      · exact ⟨_, h.2.2.2.2.1, by rw [S_back, if_neg (by omega), if_pos (by omega)], g.2.2.2.2⟩
    rw [hi] at hq
    refine ⟨vpn (by omega) (by omega), fun q => ?_, fun q => ?_⟩
    · cases u with
      | none => exact absurd hu q
      | some t =>
        refine R_copy (d := 0) hu.2 (by omega) (by omega) (by omega) (hg t rfl).1 (fun τ f e => ?_)
        have hh := hq τ f.fr
        rw [show gm τ 44 0 = nI t.1.length from e.1]
        exact hh (h.row g f e)
    · cases u with
      | none => exact hq σ Fr.rf h
      | some t => rw [hu.1] at q; exact absurd q (by decide)
  · rw [bi_0, iv_0, iv_1] at r
    have hh := hq σ Fr.rf
    rw [S_back, if_neg (by omega), if_neg (by omega)] at hh
    exact hh h
theorem R_count {E : EV} {Q : Sg → Int32 → Prop} {σ : Sg} {A : Ab} {w : Int32} (h : RepM σ A) (g : Good A) (hq : Q σ (S_count A w)) : MetI E mi_X6_count [.ref 40, .int w] σ Q := by
  obtain ⟨h1, h2, h3, -⟩ := h
  refine M_X6_count ⟨fun q => ⟨fun q2 => ⟨fun q3 => ⟨fun q4 => ⟨fun q5 => ?_, fun q5 => ?_⟩, fun q4 => ?_⟩, fun q3 => ?_⟩, fun q2 => ?_⟩, fun q => ?_⟩
  · simp only [Int32.lt_iff_toInt_lt, Int32.le_iff_toInt_le, ← Int32.toInt_inj, iv_m9, iv_m3, iv_m2, iv_m1, iv_0, iv_1, iv_2, iv_3, iv_4, iv_5, iv_6, iv_7, iv_8, iv_9, iv_32, iv_40, iv_99, iv_100, iv_400] at q q2 q3 q4 q5; rw [S_count, if_neg (by omega), if_neg (by omega), if_neg (by omega), if_neg (by omega), if_neg (by omega)] at hq; exact hq
  · simp only [Int32.lt_iff_toInt_lt, Int32.le_iff_toInt_le, ← Int32.toInt_inj, iv_m9, iv_m3, iv_m2, iv_m1, iv_0, iv_1, iv_2, iv_3, iv_4, iv_5, iv_6, iv_7, iv_8, iv_9, iv_32, iv_40, iv_99, iv_100, iv_400] at q q2 q3 q4 q5; rw [S_count, if_neg (by omega), if_neg (by omega), if_neg (by omega), if_neg (by omega), if_pos (by omega)] at hq; rw [h3.1]; exact hq
  · simp only [Int32.lt_iff_toInt_lt, Int32.le_iff_toInt_le, ← Int32.toInt_inj, iv_m9, iv_m3, iv_m2, iv_m1, iv_0, iv_1, iv_2, iv_3, iv_4, iv_5, iv_6, iv_7, iv_8, iv_9, iv_32, iv_40, iv_99, iv_100, iv_400] at q q2 q3 q4; rw [S_count, if_neg (by omega), if_neg (by omega), if_neg (by omega), if_pos (by omega)] at hq; rw [h2.2.1]; exact hq
  · simp only [Int32.lt_iff_toInt_lt, Int32.le_iff_toInt_le, ← Int32.toInt_inj, iv_m9, iv_m3, iv_m2, iv_m1, iv_0, iv_1, iv_2, iv_3, iv_4, iv_5, iv_6, iv_7, iv_8, iv_9, iv_32, iv_40, iv_99, iv_100, iv_400] at q q2 q3; rw [S_count, if_neg (by omega), if_neg (by omega), if_pos (by omega)] at hq; exact R_maybes (r := 0) h2 (by omega) g.2.1.1 (okE_s g.2.1) hq
  · simp only [Int32.lt_iff_toInt_lt, Int32.le_iff_toInt_le, ← Int32.toInt_inj, iv_m9, iv_m3, iv_m2, iv_m1, iv_0, iv_1, iv_2, iv_3, iv_4, iv_5, iv_6, iv_7, iv_8, iv_9, iv_32, iv_40, iv_99, iv_100, iv_400] at q q2; rw [S_count, if_neg (by omega), if_pos (by omega)] at hq; rw [h2.1]; exact hq
  · simp only [Int32.lt_iff_toInt_lt, Int32.le_iff_toInt_le, ← Int32.toInt_inj, iv_m9, iv_m3, iv_m2, iv_m1, iv_0, iv_1, iv_2, iv_3, iv_4, iv_5, iv_6, iv_7, iv_8, iv_9, iv_32, iv_40, iv_99, iv_100, iv_400] at q; rw [S_count, if_pos (by omega)] at hq; rw [h1.1]; exact hq
theorem R_trace {E : EV} {Q : Sg → Int64 → Prop} {σ : Sg} {A : Ab} (h : RepM σ A) (hq : Q σ A.2.2.2.2.2) : MetL E mi_X6_trace [.ref 40] σ Q := M_X6_trace (by rw [h.2.2.2.2.2.1]; exact hq)
/-! the text -/
theorem TxM.push {σ : Sg} {X : List Nat} {x : Nat} {y : Int32} (h : TxM σ X) (hy : y &&& 255 = nI x) : TxM (si (sm σ 41 X.length y) 4002 (nI (X.length + 1))) (X ++ [x]) := by
  refine ⟨by rw [List.length_append]; rfl, fun k hk => ?_⟩
  have hk : k < X.length + 1 := by have := hk; rw [List.length_append] at this; exact this
  rw [gm_si, gm_sm_s]
  rcases Nat.lt_or_ge k X.length with q | q
  · rw [upd_n (by omega), gd_app q]; exact h.2 k q
  · obtain rfl : k = X.length := by omega
    rw [upd_s, gd_last]; exact hy
theorem RepM.txt {σ τ : Sg} {A : Ab} {X : List Nat} (h : RepM σ A) (f1 : ∀ a, 41 < a → gm τ a = gm σ a) (f2 : ∀ k, gl τ k = gl σ k) (f3 : gi τ 4025 = gi σ 4025) (e : TxM τ X) : RepM τ (withX A X) := by
  obtain ⟨⟨h1, h1b⟩, ⟨h2, h2b, h2c⟩, h3, h4, h5, h6⟩ := h
  have im : ∀ i u, ImM σ i u → ImM τ i u := by
    intro i u hu
    cases u with
    | none => show gm τ 50 i = 0; rw [f1 50 (by omega)]; exact hu
    | some u =>
      obtain ⟨g1, g2, g3, g4⟩ := hu
      refine ⟨by rw [f1 50 (by omega)]; exact g1, by rw [f1 44 (by omega)]; exact g2, by rw [f1 45 (by omega)]; exact g3, fun k hk => ?_⟩
      rw [f1 46 (by omega), f1 47 (by omega), f1 48 (by omega), f1 49 (by omega)]; exact g4 k hk
  refine ⟨⟨by rw [f1 42 (by omega)]; exact h1, fun k hk => by rw [f1 43 (by omega)]; exact h1b k hk⟩, ⟨by rw [f1 44 (by omega)]; exact h2, by rw [f1 45 (by omega)]; exact h2b, fun k hk => ?_⟩, e, im _ _ h4, im _ _ h5, by rw [f2]; exact h6.1, by rw [TI, f3]; exact h6.2⟩
  rw [f1 46 (by omega), f1 47 (by omega), f1 48 (by omega), f1 49 (by omega)]; exact h2c k hk
theorem byte_bt (v : Int64) (j : Nat) : (vp_nar .byte ((((v >>> (((8 : Int32) * nI j).toInt64 &&& 63)) &&& (255 : Int64)).toInt32).toInt8.toInt32)) &&& 255 = nI (bt v j) := by
  rw [← (bt_eq v j).1]
  generalize v >>> (((8 : Int32) * nI j).toInt64 &&& 63) = L
  rw [pk_vb]
  have c1 : ∀ i, i < 32 → 8 ≤ i → (Int32.toBitVec 255).getLsbD i = false := by decide
  have c2 : ∀ i, i < 8 → (Int64.toBitVec 255).getLsbD i = true := by decide
  apply Int32.toBitVec_inj.mp
  simp only [Int32.toBitVec_and, Int8.toBitVec_toInt32, Int32.toBitVec_toInt8, Int64.toBitVec_toInt32, Int64.toBitVec_and]
  apply BitVec.eq_of_getLsbD_eq
  intro i hi
  rcases Nat.lt_or_ge i 8 with q | q
  · have h8 := c2 i q
    have h64 : i < 64 := by omega
    simp only [BitVec.getLsbD_and, BitVec.getLsbD_signExtend, BitVec.getLsbD_setWidth, h8, q, hi, h64, if_true, decide_true, Bool.true_and, Bool.and_true]
  · rw [BitVec.getLsbD_and, BitVec.getLsbD_and, c1 i hi q, Bool.and_false, Bool.and_false]
theorem R_type_loop {E : EV} {Q : Sg → Int32 → Prop} {v : Int64} {v3 : Int32} : ∀ (k : Nat) (σ : Sg) (X : List Nat), X.length + k ≤ 400 → TxM σ X → (∀ τ, (Fr 40 57 σ τ ∧ (∀ a, 41 < a → gm τ a = gm σ a) ∧ (∀ k, gl τ k = gl σ k) ∧ gi τ 4025 = gi σ 4025) → TxM τ (X ++ bts v k) → Q τ (nI (X.length + k))) → K_X6_type_32 E Q σ v v3 (nI k - 1)
  | 0, σ, X, hk, hX, hq => B_X6_type_32 ⟨fun _ => by
      rw [hX.1]
      have := hq σ ⟨Fr.rf, fun _ _ => rfl, fun _ => rfl, rfl⟩
      rw [bts, List.append_nil] at this
      exact this hX, fun q => absurd (by decide) q⟩
  | k + 1, σ, X, hk, hX, hq => by
    rw [nI_pred]
    refine B_X6_type_32 ⟨fun q => absurd q (nI_pos (by omega)), fun _ => ?_⟩
    rw [hX.1, cl (by omega), nI_1]
    refine ⟨vpn (by omega) (by omega), ?_⟩
    rw [show nI k + (-1) = nI k - 1 from (Int32.sub_eq_add_neg ..).symm]
    refine R_type_loop k _ _ (by rw [List.length_append]; simp only [List.length_cons, List.length_nil]; omega) (hX.push (byte_bt v k)) (fun τ2 f2 e2 => ?_)
    have := hq τ2 ⟨(Fr.si (Fr.sm Fr.rf (by omega) (by omega)) (by omega) (by omega)).tr f2.1, fun a ha => by rw [f2.2.1 a ha, gm_si, gm_sm_n (by omega)], fun k => f2.2.2.1 k, f2.2.2.2⟩
    rw [bts] at this
    rw [List.append_assoc] at e2
    rw [show (X ++ [bt v k]).length + k = X.length + (k + 1) by rw [List.length_append]; simp only [List.length_cons, List.length_nil]; omega]
    exact this e2
theorem R_type {E : EV} {Q : Sg → Int32 → Prop} {σ : Sg} {A : Ab} {v : Int64} {n : Int32} (h : RepM σ A) (g : Good A) (hq : ∀ τ, Fr 40 57 σ τ → RepM τ (S_type A v n).2 → Q τ (S_type A v n).1) : MetI E mi_X6_type [.ref 40, .long v, .int n] σ Q := by
  have hX := g.2.2.1.1
  have hx : gi σ 4002 = nI A.2.2.1.length := h.2.2.1.1
  refine M_X6_type (R_in ⟨fun r => ?_, fun r => ?_⟩)
  · rw [bi_n0, iv_1, iv_8] at r
    obtain ⟨m, hm, rfl, em⟩ := ge0 (x := n) (by omega)
    have es : (nI (A.2.2.1.length + m)).toInt = ((A.2.2.1.length + m : Nat) : Int) := nIt (by omega)
    rw [hx, nI_add]
    refine ⟨fun q3 => ?_, fun q3 => ?_⟩
    · simp only [Int32.lt_iff_toInt_lt, Int32.le_iff_toInt_le, ← Int32.toInt_inj, iv_m9, iv_m3, iv_m2, iv_m1, iv_0, iv_1, iv_2, iv_3, iv_4, iv_5, iv_6, iv_7, iv_8, iv_9, iv_32, iv_40, iv_99, iv_100, iv_400, es] at q3
      refine R_type_loop m σ A.2.2.1 (by omega) h.2.2.1 (fun τ f e => ?_)
      have hh := hq τ f.1
      rw [S_type, if_pos (by omega), cl hm, if_pos (by omega)] at hh
      exact hh (h.txt f.2.1 f.2.2.1 f.2.2.2 e)
    · simp only [Int32.lt_iff_toInt_lt, Int32.le_iff_toInt_le, ← Int32.toInt_inj, iv_m9, iv_m3, iv_m2, iv_m1, iv_0, iv_1, iv_2, iv_3, iv_4, iv_5, iv_6, iv_7, iv_8, iv_9, iv_32, iv_40, iv_99, iv_100, iv_400, es] at q3
      have hh := hq σ Fr.rf
      rw [S_type, if_pos (by omega), cl hm, if_neg (by omega)] at hh
      exact hh h
  · rw [bi_0, iv_1, iv_8] at r
    have := hq σ Fr.rf
    rw [S_type, if_neg (by omega)] at this
    exact this h
theorem R_clear {E : EV} {Q : Sg → Int32 → Prop} {σ : Sg} {A : Ab} (h : RepM σ A) (hq : ∀ τ, Fr 40 57 σ τ → RepM τ (S_clear A).2 → Q τ (S_clear A).1) : MetI E mi_X6_clear [.ref 40] σ Q := by
  refine M_X6_clear ?_
  rw [h.2.2.1.1]
  exact hq _ (Fr.si Fr.rf (by omega) (by omega)) (h.txt (fun _ _ => rfl) (fun _ => rfl) rfl ⟨rfl, fun k hk => absurd hk (by simp)⟩)
