/-! ===== ITEMS of a text ===== -/
def kd (X : List Nat) (p : Nat) : Nat := (tok X p).1
def st (X : List Nat) (p : Nat) : Nat := (tok X p).2.1
def en (X : List Nat) (p : Nat) : Nat := (tok X p).2.2.1
def vl (X : List Nat) (p : Nat) : Nat := (tok X p).2.2.2
abbrev Itm : Type := Nat ⊕ (Nat × List Nat × List Ev)
def lastD (L : List Ev) : Nat := if L.length = 0 then 0 else (ge L (L.length - 1)).2.1
abbrev bOk (k a b n : Nat) : Prop := (k ≤ 1 → b < n ∧ b ≠ a) ∧ (2 ≤ k → b < 4)
def itemP (X : List Nat) (p : Nat) (P : List Nat) (L : List Ev) : Itm :=
  if 8 ≤ P.length then .inl (st X p)
  else if ¬ numOk X (en X p) 0 3 then .inl (st X (en X p))
  else if ¬ kd X (en X (en X p)) = 8 then .inl (st X (en X (en X p)))
  else .inr (en X (en X (en X p)), P ++ [vl X (en X p)], L)
def itemE (X : List Nat) (p : Nat) (P : List Nat) (L : List Ev) : Itm :=
  if ¬ (L.length < 40 ∧ (kd X p = 1 → mc L < 6)) then .inl (st X p)
  else if ¬ numOk X (en X p) (lastD L) 99 then .inl (st X (en X p))
  else if ¬ numOk X (en X (en X p)) 0 ((P.length : Int) - 1) then .inl (st X (en X (en X p)))
  else if ¬ (numOk X (en X (en X (en X p))) 0 99 ∧ bOk (kd X p) (vl X (en X (en X p))) (vl X (en X (en X (en X p)))) P.length) then .inl (st X (en X (en X (en X p))))
  else if ¬ kd X (en X (en X (en X (en X p)))) = 8 then .inl (st X (en X (en X (en X (en X p)))))
  else .inr (en X (en X (en X (en X (en X p)))), P, L ++ [(kd X p, vl X (en X p), vl X (en X (en X p)), vl X (en X (en X (en X p))))])
def item (X : List Nat) (p : Nat) (P : List Nat) (L : List Ev) : Itm :=
  if kd X p = 5 then itemP X p P L else if kd X p ≤ 4 then itemE X p P L else .inl (st X p)
theorem en_le {X : List Nat} {p : Nat} (hp : p ≤ X.length) : en X p ≤ X.length := (tok_le hp).2.2.2
/-! the class: words -/
theorem C_isW_900 {E : EV} {Q : Sg → Int32 → Prop} {σ : Sg} {X : List Nat} {s e : Nat} (hX : okX X) (h : TxC σ X) (hse : s ≤ e) (heN : e ≤ X.length) (e3 : gi σ 1103 = nI e) (e6 : gi σ 1106 = nI s) (hl : ∀ j, j < e - s → isL X (s + j) = true) (hq : Q σ (bi (cdW X s e = wcode 0))) : MetI E mi_X2_isWord [.ref 11, .ref 900] σ Q := by
  have hL := hX.1
  have hw : isW X s (e - s) 0 ↔ cdW X s e = wcode 0 := (word_iff (by omega) (gd_lt hX) hl).trans (cdW_iff (by omega) hl).symm
  have l6 : slen.getD 0 0 ≤ 6 := by decide
  have go : e - s = slen.getD 0 0 → ∀ (f k : Nat), k + f = slen.getD 0 0 → (∀ j, j < k → nI (gd X (s + j)) = (sbyt.getD 0 []).getD j 0) → K_X2_isWord_11_900_20 E Q σ (nI k) := by
    intro hn f
    induction f with
    | zero =>
      intro k hk hj
      obtain rfl : k = slen.getD 0 0 := by omega
      exact B_X2_isWord_11_900_20 (M_str_length (i := 0) (by omega) ⟨fun _ => q1 hq (hw.mp ⟨hn, hj⟩), fun z => absurd (nI_le (Nat.le_refl _) (by omega)) z⟩)
    | succ f ih =>
      intro k hk hj
      refine B_X2_isWord_11_900_20 (M_str_length (i := 0) (by omega) ⟨fun z => absurd z (nI_ge (by omega) (by omega)), fun _ => ?_⟩)
      rw [e6, nI_add, nI_1]
      refine C_byte h hX (by omega) (M_str_charAt (i := 0) (by omega) (by omega) ⟨fun z => ih (k + 1) (by omega) (fun j hj2 => ?_), fun z => q0 hq (fun w => z ((hw.mpr w).2 k (by omega)))⟩)
      rcases (show j < k ∨ j = k by omega) with y | y
      · exact hj j y
      · rw [y]; exact z
  refine M_X2_isWord_11_900 (M_str_length (i := 0) (by omega) ?_)
  rw [e3, e6, pk_sub hse]
  refine ⟨fun z => go (inj_nI (by omega) (by omega) z) (slen.getD 0 0) 0 (by omega) (fun j hj => absurd hj (by omega)), fun z => q0 hq (fun w => z (by rw [(hw.mpr w).1]))⟩
theorem C_isW_901 {E : EV} {Q : Sg → Int32 → Prop} {σ : Sg} {X : List Nat} {s e : Nat} (hX : okX X) (h : TxC σ X) (hse : s ≤ e) (heN : e ≤ X.length) (e3 : gi σ 1103 = nI e) (e6 : gi σ 1106 = nI s) (hl : ∀ j, j < e - s → isL X (s + j) = true) (hq : Q σ (bi (cdW X s e = wcode 1))) : MetI E mi_X2_isWord [.ref 11, .ref 901] σ Q := by
  have hL := hX.1
  have hw : isW X s (e - s) 1 ↔ cdW X s e = wcode 1 := (word_iff (by omega) (gd_lt hX) hl).trans (cdW_iff (by omega) hl).symm
  have l6 : slen.getD 1 0 ≤ 6 := by decide
  have go : e - s = slen.getD 1 0 → ∀ (f k : Nat), k + f = slen.getD 1 0 → (∀ j, j < k → nI (gd X (s + j)) = (sbyt.getD 1 []).getD j 0) → K_X2_isWord_11_901_20 E Q σ (nI k) := by
    intro hn f
    induction f with
    | zero =>
      intro k hk hj
      obtain rfl : k = slen.getD 1 0 := by omega
      exact B_X2_isWord_11_901_20 (M_str_length (i := 1) (by omega) ⟨fun _ => q1 hq (hw.mp ⟨hn, hj⟩), fun z => absurd (nI_le (Nat.le_refl _) (by omega)) z⟩)
    | succ f ih =>
      intro k hk hj
      refine B_X2_isWord_11_901_20 (M_str_length (i := 1) (by omega) ⟨fun z => absurd z (nI_ge (by omega) (by omega)), fun _ => ?_⟩)
      rw [e6, nI_add, nI_1]
      refine C_byte h hX (by omega) (M_str_charAt (i := 1) (by omega) (by omega) ⟨fun z => ih (k + 1) (by omega) (fun j hj2 => ?_), fun z => q0 hq (fun w => z ((hw.mpr w).2 k (by omega)))⟩)
      rcases (show j < k ∨ j = k by omega) with y | y
      · exact hj j y
      · rw [y]; exact z
  refine M_X2_isWord_11_901 (M_str_length (i := 1) (by omega) ?_)
  rw [e3, e6, pk_sub hse]
  refine ⟨fun z => go (inj_nI (by omega) (by omega) z) (slen.getD 1 0) 0 (by omega) (fun j hj => absurd hj (by omega)), fun z => q0 hq (fun w => z (by rw [(hw.mpr w).1]))⟩
theorem C_isW_902 {E : EV} {Q : Sg → Int32 → Prop} {σ : Sg} {X : List Nat} {s e : Nat} (hX : okX X) (h : TxC σ X) (hse : s ≤ e) (heN : e ≤ X.length) (e3 : gi σ 1103 = nI e) (e6 : gi σ 1106 = nI s) (hl : ∀ j, j < e - s → isL X (s + j) = true) (hq : Q σ (bi (cdW X s e = wcode 2))) : MetI E mi_X2_isWord [.ref 11, .ref 902] σ Q := by
  have hL := hX.1
  have hw : isW X s (e - s) 2 ↔ cdW X s e = wcode 2 := (word_iff (by omega) (gd_lt hX) hl).trans (cdW_iff (by omega) hl).symm
  have l6 : slen.getD 2 0 ≤ 6 := by decide
  have go : e - s = slen.getD 2 0 → ∀ (f k : Nat), k + f = slen.getD 2 0 → (∀ j, j < k → nI (gd X (s + j)) = (sbyt.getD 2 []).getD j 0) → K_X2_isWord_11_902_20 E Q σ (nI k) := by
    intro hn f
    induction f with
    | zero =>
      intro k hk hj
      obtain rfl : k = slen.getD 2 0 := by omega
      exact B_X2_isWord_11_902_20 (M_str_length (i := 2) (by omega) ⟨fun _ => q1 hq (hw.mp ⟨hn, hj⟩), fun z => absurd (nI_le (Nat.le_refl _) (by omega)) z⟩)
    | succ f ih =>
      intro k hk hj
      refine B_X2_isWord_11_902_20 (M_str_length (i := 2) (by omega) ⟨fun z => absurd z (nI_ge (by omega) (by omega)), fun _ => ?_⟩)
      rw [e6, nI_add, nI_1]
      refine C_byte h hX (by omega) (M_str_charAt (i := 2) (by omega) (by omega) ⟨fun z => ih (k + 1) (by omega) (fun j hj2 => ?_), fun z => q0 hq (fun w => z ((hw.mpr w).2 k (by omega)))⟩)
      rcases (show j < k ∨ j = k by omega) with y | y
      · exact hj j y
      · rw [y]; exact z
  refine M_X2_isWord_11_902 (M_str_length (i := 2) (by omega) ?_)
  rw [e3, e6, pk_sub hse]
  refine ⟨fun z => go (inj_nI (by omega) (by omega) z) (slen.getD 2 0) 0 (by omega) (fun j hj => absurd hj (by omega)), fun z => q0 hq (fun w => z (by rw [(hw.mpr w).1]))⟩
theorem C_isW_903 {E : EV} {Q : Sg → Int32 → Prop} {σ : Sg} {X : List Nat} {s e : Nat} (hX : okX X) (h : TxC σ X) (hse : s ≤ e) (heN : e ≤ X.length) (e3 : gi σ 1103 = nI e) (e6 : gi σ 1106 = nI s) (hl : ∀ j, j < e - s → isL X (s + j) = true) (hq : Q σ (bi (cdW X s e = wcode 3))) : MetI E mi_X2_isWord [.ref 11, .ref 903] σ Q := by
  have hL := hX.1
  have hw : isW X s (e - s) 3 ↔ cdW X s e = wcode 3 := (word_iff (by omega) (gd_lt hX) hl).trans (cdW_iff (by omega) hl).symm
  have l6 : slen.getD 3 0 ≤ 6 := by decide
  have go : e - s = slen.getD 3 0 → ∀ (f k : Nat), k + f = slen.getD 3 0 → (∀ j, j < k → nI (gd X (s + j)) = (sbyt.getD 3 []).getD j 0) → K_X2_isWord_11_903_20 E Q σ (nI k) := by
    intro hn f
    induction f with
    | zero =>
      intro k hk hj
      obtain rfl : k = slen.getD 3 0 := by omega
      exact B_X2_isWord_11_903_20 (M_str_length (i := 3) (by omega) ⟨fun _ => q1 hq (hw.mp ⟨hn, hj⟩), fun z => absurd (nI_le (Nat.le_refl _) (by omega)) z⟩)
    | succ f ih =>
      intro k hk hj
      refine B_X2_isWord_11_903_20 (M_str_length (i := 3) (by omega) ⟨fun z => absurd z (nI_ge (by omega) (by omega)), fun _ => ?_⟩)
      rw [e6, nI_add, nI_1]
      refine C_byte h hX (by omega) (M_str_charAt (i := 3) (by omega) (by omega) ⟨fun z => ih (k + 1) (by omega) (fun j hj2 => ?_), fun z => q0 hq (fun w => z ((hw.mpr w).2 k (by omega)))⟩)
      rcases (show j < k ∨ j = k by omega) with y | y
      · exact hj j y
      · rw [y]; exact z
  refine M_X2_isWord_11_903 (M_str_length (i := 3) (by omega) ?_)
  rw [e3, e6, pk_sub hse]
  refine ⟨fun z => go (inj_nI (by omega) (by omega) z) (slen.getD 3 0) 0 (by omega) (fun j hj => absurd hj (by omega)), fun z => q0 hq (fun w => z (by rw [(hw.mpr w).1]))⟩
theorem C_isW_904 {E : EV} {Q : Sg → Int32 → Prop} {σ : Sg} {X : List Nat} {s e : Nat} (hX : okX X) (h : TxC σ X) (hse : s ≤ e) (heN : e ≤ X.length) (e3 : gi σ 1103 = nI e) (e6 : gi σ 1106 = nI s) (hl : ∀ j, j < e - s → isL X (s + j) = true) (hq : Q σ (bi (cdW X s e = wcode 4))) : MetI E mi_X2_isWord [.ref 11, .ref 904] σ Q := by
  have hL := hX.1
  have hw : isW X s (e - s) 4 ↔ cdW X s e = wcode 4 := (word_iff (by omega) (gd_lt hX) hl).trans (cdW_iff (by omega) hl).symm
  have l6 : slen.getD 4 0 ≤ 6 := by decide
  have go : e - s = slen.getD 4 0 → ∀ (f k : Nat), k + f = slen.getD 4 0 → (∀ j, j < k → nI (gd X (s + j)) = (sbyt.getD 4 []).getD j 0) → K_X2_isWord_11_904_20 E Q σ (nI k) := by
    intro hn f
    induction f with
    | zero =>
      intro k hk hj
      obtain rfl : k = slen.getD 4 0 := by omega
      exact B_X2_isWord_11_904_20 (M_str_length (i := 4) (by omega) ⟨fun _ => q1 hq (hw.mp ⟨hn, hj⟩), fun z => absurd (nI_le (Nat.le_refl _) (by omega)) z⟩)
    | succ f ih =>
      intro k hk hj
      refine B_X2_isWord_11_904_20 (M_str_length (i := 4) (by omega) ⟨fun z => absurd z (nI_ge (by omega) (by omega)), fun _ => ?_⟩)
      rw [e6, nI_add, nI_1]
      refine C_byte h hX (by omega) (M_str_charAt (i := 4) (by omega) (by omega) ⟨fun z => ih (k + 1) (by omega) (fun j hj2 => ?_), fun z => q0 hq (fun w => z ((hw.mpr w).2 k (by omega)))⟩)
      rcases (show j < k ∨ j = k by omega) with y | y
      · exact hj j y
      · rw [y]; exact z
  refine M_X2_isWord_11_904 (M_str_length (i := 4) (by omega) ?_)
  rw [e3, e6, pk_sub hse]
  refine ⟨fun z => go (inj_nI (by omega) (by omega) z) (slen.getD 4 0) 0 (by omega) (fun j hj => absurd hj (by omega)), fun z => q0 hq (fun w => z (by rw [(hw.mpr w).1]))⟩
theorem C_isW_905 {E : EV} {Q : Sg → Int32 → Prop} {σ : Sg} {X : List Nat} {s e : Nat} (hX : okX X) (h : TxC σ X) (hse : s ≤ e) (heN : e ≤ X.length) (e3 : gi σ 1103 = nI e) (e6 : gi σ 1106 = nI s) (hl : ∀ j, j < e - s → isL X (s + j) = true) (hq : Q σ (bi (cdW X s e = wcode 5))) : MetI E mi_X2_isWord [.ref 11, .ref 905] σ Q := by
  have hL := hX.1
  have hw : isW X s (e - s) 5 ↔ cdW X s e = wcode 5 := (word_iff (by omega) (gd_lt hX) hl).trans (cdW_iff (by omega) hl).symm
  have l6 : slen.getD 5 0 ≤ 6 := by decide
  have go : e - s = slen.getD 5 0 → ∀ (f k : Nat), k + f = slen.getD 5 0 → (∀ j, j < k → nI (gd X (s + j)) = (sbyt.getD 5 []).getD j 0) → K_X2_isWord_11_905_20 E Q σ (nI k) := by
    intro hn f
    induction f with
    | zero =>
      intro k hk hj
      obtain rfl : k = slen.getD 5 0 := by omega
      exact B_X2_isWord_11_905_20 (M_str_length (i := 5) (by omega) ⟨fun _ => q1 hq (hw.mp ⟨hn, hj⟩), fun z => absurd (nI_le (Nat.le_refl _) (by omega)) z⟩)
    | succ f ih =>
      intro k hk hj
      refine B_X2_isWord_11_905_20 (M_str_length (i := 5) (by omega) ⟨fun z => absurd z (nI_ge (by omega) (by omega)), fun _ => ?_⟩)
      rw [e6, nI_add, nI_1]
      refine C_byte h hX (by omega) (M_str_charAt (i := 5) (by omega) (by omega) ⟨fun z => ih (k + 1) (by omega) (fun j hj2 => ?_), fun z => q0 hq (fun w => z ((hw.mpr w).2 k (by omega)))⟩)
      rcases (show j < k ∨ j = k by omega) with y | y
      · exact hj j y
      · rw [y]; exact z
  refine M_X2_isWord_11_905 (M_str_length (i := 5) (by omega) ?_)
  rw [e3, e6, pk_sub hse]
  refine ⟨fun z => go (inj_nI (by omega) (by omega) z) (slen.getD 5 0) 0 (by omega) (fun j hj => absurd hj (by omega)), fun z => q0 hq (fun w => z (by rw [(hw.mpr w).1]))⟩
def sortI (c : Nat) : Int32 := if mean c ≤ 4 then nI (mean c) else -1
theorem C_sort {E : EV} {Q : Sg → Int32 → Prop} {σ : Sg} {X : List Nat} {s e : Nat} (hX : okX X) (h : TxC σ X) (hse : s ≤ e) (heN : e ≤ X.length) (e3 : gi σ 1103 = nI e) (e6 : gi σ 1106 = nI s) (hl : ∀ j, j < e - s → isL X (s + j) = true) (hq : Q σ (sortI (cdW X s e))) : MetI E mi_X2_sortOfWord [.ref 11] σ Q := by
  refine M_X2_sortOfWord_11 (C_isW_901 hX h hse heN e3 e6 hl ⟨fun z1 => C_isW_902 hX h hse heN e3 e6 hl ⟨fun z2 => C_isW_903 hX h hse heN e3 e6 hl ⟨fun z3 => C_isW_904 hX h hse heN e3 e6 hl ⟨fun z4 => C_isW_905 hX h hse heN e3 e6 hl ⟨fun z5 => ?_, fun z5 => ?_⟩, fun z4 => ?_⟩, fun z3 => ?_⟩, fun z2 => ?_⟩, fun z1 => ?_⟩)
  · rw [bi_0] at z1 z2 z3 z4 z5
    generalize cdW X s e = c at *
    have z1 : ¬ c = 394724 := z1
    have z2 : ¬ c = 6946700 := z2
    have z3 : ¬ c = 10793234 := z3
    have z4 : ¬ c = 13903 := z4
    have z5 : ¬ c = 267413 := z5
    have : ¬ mean c ≤ 4 := by
      rw [mean, if_neg z4, if_neg z5, if_neg z1, if_neg z2, if_neg z3]
      split <;> omega
    rw [sortI, if_neg this] at hq; exact hq
  · rw [bi_n0] at z5
    rw [z5] at hq; exact hq
  · rw [bi_n0] at z4
    rw [z4] at hq; exact hq
  · rw [bi_n0] at z3
    rw [z3] at hq; exact hq
  · rw [bi_n0] at z2
    rw [z2] at hq; exact hq
  · rw [bi_n0] at z1
    rw [z1] at hq; exact hq
theorem mean_5 {c : Nat} : mean c = 5 ↔ c = wcode 0 := by
  constructor
  · intro h
    rw [mean] at h
    split at h
    · omega
    · split at h
      · omega
      · split at h
        · omega
        · split at h
          · omega
          · split at h
            · omega
            · split at h
              · assumption
              · omega
  · intro h; rw [h]; rfl
theorem C_person {E : EV} {Q : Sg → Int32 → Prop} {σ : Sg} {X : List Nat} {p : Nat} {P : List Nat} {L : List Ev} (hX : okX X) (h : TxC σ X) (hp : p ≤ X.length) (hT : TkC σ X p) (hF : FoC σ 12 P) (hP : P.length ≤ 8) (hE : EvC σ 14 (L, lastD L)) (hqF : ∀ s, itemP X p P L = .inl s → ∀ τ, Fr 11 19 σ τ → gi τ 1106 = nI s → Q τ 0) (hqO : ∀ p' P' L', itemP X p P L = .inr (p', P', L') → ∀ τ, Fr 11 19 σ τ → gi τ 1103 = nI p' → FoC τ 12 P' → EvC τ 14 (L', lastD L') → Q τ 1) : MetI E mi_X2_readPerson [.ref 11] σ Q := by
  have hn : gi σ 1201 = nI P.length := hF.1
  refine M_X2_readPerson_11 ⟨fun z => ?_, fun z => ?_⟩
  · rw [hn, show (8 : Int32) = nI 8 from rfl, nI_leI (by omega) (by omega)] at z
    exact hqF (st X p) (by rw [itemP, if_pos z]) σ Fr.rf hT.1.2
  · rw [hn, show (8 : Int32) = nI 8 from rfl, nI_leI (by omega) (by omega)] at z
    refine C_number (lo := 0) hX h (en_le hp) hT.1.1 (by omega) (fun τ f hT1 => ⟨fun y => ?_, fun y => ?_⟩)
    · rw [bi_n0] at y
      have y : numOk X (en X p) 0 3 := y
      have hv : gi τ 1105 = nI (vl X (en X p)) := by
        rcases hT1.2 with w | w | w | w | w
        · exact absurd (w.2.symm.trans y.1) (by decide)
        · have := @mean_le (cdW X (tok X (en X p)).2.1 (tok X (en X p)).2.2.1)
          exact absurd (w.2.1.symm.trans y.1) (by omega)
        · exact w.2.2.1
        · exact absurd (w.2.symm.trans y.1) (by decide)
        · exact absurd (w.2.symm.trans y.1) (by decide)
      refine C_stop hX (h.fr f (by omega)) (en_le (en_le hp)) hT1.1.1 (fun υ f2 hT2 => ⟨fun y2 => ?_, fun y2 => ?_⟩)
      · rw [bi_n0] at y2
        have y2 : kd X (en X (en X p)) = 8 := y2
        rw [hv]
        have hn2 : gi υ 1201 = nI P.length := (hF.fr (f.tr f2) (by omega)).1
        refine M_X1_add_12 ⟨fun w => absurd w (by rw [hn2]; exact nI_ge (a := P.length) (b := 8) (by omega) (by omega)), fun _ => ⟨by rw [hn2]; exact vpn (by omega) (by omega), ?_⟩⟩
        rw [hn2, cl (by omega), nI_1]
        refine hqO (en X (en X (en X p))) (P ++ [vl X (en X p)]) L (by rw [itemP, if_neg z, if_neg (fun w => w y), if_neg (fun w => w y2)]) _ ((((f.tr f2).mono (by omega) (by omega)).sm (by omega) (by omega)).si (by omega) (by omega)) hT2.1.1 ⟨?_, fun k hk => ?_⟩ ((hE.fr (f.tr f2) (by omega)).fr (Fr.si (Fr.sm Fr.rf (lo := 12) (hi := 13) (by omega) (by omega)) (by omega) (by omega)) (by omega))
        · show _ = nI (P ++ [_]).length
          rw [List.length_append]; exact gi_si_s
        · have hk : k < P.length + 1 := by have := hk; rw [List.length_append] at this; exact this
          show upd (gm υ 13) P.length (nI (vl X (en X p))) k = nI (gd (P ++ [_]) k)
          rcases (show k < P.length ∨ k = P.length by omega) with w | w
          · rw [upd_n (by omega), gd_app w]; exact (hF.fr (f.tr f2) (by omega)).2 k w
          · rw [w, upd_s, gd_last]
      · rw [bi_0] at y2
        have y2 : ¬ kd X (en X (en X p)) = 8 := y2
        exact hqF (st X (en X (en X p))) (by rw [itemP, if_neg z, if_neg (fun w => w y), if_pos y2]) υ ((f.tr f2).mono (by omega) (by omega)) hT2.1.2
    · rw [bi_0] at y
      have y : ¬ numOk X (en X p) 0 3 := y
      exact hqF (st X (en X p)) (by rw [itemP, if_neg z, if_pos y]) τ (f.mono (by omega) (by omega)) hT1.1.2
