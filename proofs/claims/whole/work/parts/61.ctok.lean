/-! ===== the class: the next TOKEN ===== -/
def TkC (σ : Sg) (X : List Nat) (p : Nat) : Prop := (gi σ 1103 = nI (tok X p).2.2.1 ∧ gi σ 1106 = nI (tok X p).2.1) ∧
  ((gi σ 1104 = 0 ∧ (tok X p).1 = 6) ∨ (gi σ 1104 = 1 ∧ (tok X p).1 = mean (cdW X (tok X p).2.1 (tok X p).2.2.1) ∧ ∀ j, j < (tok X p).2.2.1 - (tok X p).2.1 → isL X ((tok X p).2.1 + j) = true) ∨ (gi σ 1104 = 2 ∧ (tok X p).1 = 7 ∧ gi σ 1105 = nI (tok X p).2.2.2 ∧ (tok X p).2.2.2 ≤ 99) ∨ (gi σ 1104 = 3 ∧ (tok X p).1 = 8) ∨ (gi σ 1104 = 4 ∧ (tok X p).1 = 9))
theorem C_token {E : EV} {Q : Sg → Prop} {σ : Sg} {X : List Nat} {p : Nat} (hX : okX X) (h : TxC σ X) (hp : p ≤ X.length) (e3 : gi σ 1103 = nI p) (hq : ∀ τ, Fr 11 11 σ τ → TkC τ X p → Q τ) : MetV E mi_X2_readToken [.ref 11] σ Q := by
  have hL := hX.1
  have c59 : ∀ x, x < 256 → (nI x = (59 : Int32) ↔ x = 59) := fun x hx => ⟨fun z => inj_nI (by omega) (by omega) z, fun z => by rw [z]; rfl⟩
  have c32 : ∀ x, x < 256 → (nI x = (32 : Int32) ↔ x = 32) := fun x hx => ⟨fun z => inj_nI (by omega) (by omega) z, fun z => by rw [z]; rfl⟩
  have go : ∀ (f q : Nat) (τ : Sg), q + f = X.length → skF (isB X) f q = skF (isB X) (X.length - p) p → Fr 11 11 σ τ → gi τ 1103 = nI q → K_X2_readToken_11_0 E Q τ := by
    intro f
    induction f with
    | zero =>
      intro q τ hq2 hs fr e
      have hT : TxC τ X := h.fr fr (by omega)
      have hqN : q = X.length := by omega
      rw [skF] at hs
      have ht : tok X p = (6, q, q, 0) := by rw [tok, ← hs, tokAt, if_pos (by omega)]
      refine B_X2_readToken_11_0 ⟨fun _ => ?_, fun z => absurd (by rw [hT.1, e]; exact nI_le (by omega) (by omega)) z⟩
      rw [e]
      refine C_byteE (h.fr (fr.si (by omega) (by omega)) (by omega)) hX (by omega) (by omega) ⟨fun z => absurd z (by decide), fun _ => hq _ ((fr.si (by omega) (by omega)).si (by omega) (by omega)) ?_⟩
      rw [TkC, ht]
      exact ⟨⟨e, rfl⟩, Or.inl ⟨rfl, rfl⟩⟩
    | succ f ih =>
      intro q τ hq2 hs fr e
      have hT : TxC τ X := h.fr fr (by omega)
      have hb := gd_lt hX q
      refine B_X2_readToken_11_0 ⟨fun z => absurd z (by rw [hT.1, e]; exact nI_ge (by omega) (by omega)), fun _ => ?_⟩
      rw [e]
      refine C_byte hT hX (by omega) ⟨fun z => ?_, fun z => ?_⟩
      all_goals rw [c32 _ hb] at z
      · rw [skF, if_neg (show ¬ isB X q = true from fun w => z (of_decide_eq_true w))] at hs
        rw [e]
        have fr2 : Fr 11 11 σ (si τ 1106 (nI q)) := fr.si (by omega) (by omega)
        have hT2 : TxC (si τ 1106 (nI q)) X := h.fr fr2 (by omega)
        refine C_byte hT2 hX (by omega) ⟨fun _ => C_letter hb ⟨fun z1 => C_digit hb ⟨fun z2 => ⟨fun z3 => ?_, fun z3 => ?_⟩, fun z2 => ?_⟩, fun z1 => ?_⟩, fun y => absurd (nI_pos' (by omega)) y⟩
        · rw [bi_0] at z1 z2
          rw [c59 _ hb] at z3
          have zl : ¬ isL X q = true := fun w => z1 (of_decide_eq_true w)
          have zd : ¬ isD X q = true := fun w => z2 (of_decide_eq_true w)
          have ht : tok X p = (9, q, q + 1, 0) := by rw [tok, ← hs, tokAt, if_neg (by omega), if_neg zl, if_neg zd, if_neg z3]
          refine hq _ ((fr2.si (by omega) (by omega)).si (by omega) (by omega)) ?_
          rw [TkC, ht]
          refine ⟨⟨?_, rfl⟩, Or.inr (Or.inr (Or.inr (Or.inr ⟨rfl, rfl⟩)))⟩
          show gi τ 1103 + 1 = nI (q + 1)
          rw [e, nI_1]
        · rw [bi_0] at z1 z2
          rw [c59 _ hb] at z3
          have zl : ¬ isL X q = true := fun w => z1 (of_decide_eq_true w)
          have zd : ¬ isD X q = true := fun w => z2 (of_decide_eq_true w)
          have ht : tok X p = (8, q, q + 1, 0) := by rw [tok, ← hs, tokAt, if_neg (by omega), if_neg zl, if_neg zd, if_pos z3]
          refine hq _ ((fr2.si (by omega) (by omega)).si (by omega) (by omega)) ?_
          rw [TkC, ht]
          refine ⟨⟨?_, rfl⟩, Or.inr (Or.inr (Or.inr (Or.inl ⟨rfl, rfl⟩)))⟩
          show gi τ 1103 + 1 = nI (q + 1)
          rw [e, nI_1]
        · rw [bi_0] at z1
          rw [bi_n0] at z2
          have zl : ¬ isL X q = true := fun w => z1 (of_decide_eq_true w)
          have zd : isD X q = true := decide_eq_true z2
          have ht : tok X p = (if dv X (X.length - q) q 0 ≤ 99 ∧ ¬ (gd X q = 48 ∧ 1 < skF (isD X) (X.length - q) q - q) then 7 else 9, q, skF (isD X) (X.length - q) q, dv X (X.length - q) q 0) := by rw [tok, ← hs, tokAt, if_neg (by omega), if_neg zl, if_pos zd]
          have fr3 : Fr 11 11 σ (si (si τ 1106 (nI q)) 1105 0) := fr2.si (by omega) (by omega)
          refine M_X2_readDigits_11 (C_digits hX (by omega) (X.length - q) q 0 (si (si τ 1106 (nI q)) 1105 0) (by omega) (Nat.le_refl q) (by omega) (h.fr fr3 (by omega)) e rfl rfl (fun υ f2 a1 a2 a3 a4 => hq υ (fr3.tr f2) ?_))
          rw [TkC, ht]
          refine ⟨⟨a1, a2⟩, Or.inr (Or.inr ?_)⟩
          by_cases w : dv X (X.length - q) q 0 ≤ 99 ∧ ¬ (gd X q = 48 ∧ 1 < skF (isD X) (X.length - q) q - q)
          · rw [if_pos w] at a4 ⊢
            exact Or.inl ⟨a4, rfl, a3, w.1⟩
          · rw [if_neg w] at a4 ⊢
            exact Or.inr (Or.inr ⟨a4, rfl⟩)
        · rw [bi_n0] at z1
          have zl : isL X q = true := decide_eq_true z1
          have ht : tok X p = (mean (cdW X q (skF (isL X) (X.length - q) q)), q, skF (isL X) (X.length - q) q, 0) := by rw [tok, ← hs, tokAt, if_neg (by omega), if_pos zl]
          refine M_X2_readWord_11 (C_word hX (X.length - q) q (si τ 1106 (nI q)) (by omega) hT2 e (fun υ f2 a1 a2 a3 => hq υ (fr2.tr f2) ?_))
          rw [TkC, ht]
          refine ⟨⟨a1, a2⟩, Or.inr (Or.inl ⟨a3, rfl, fun j hj => ?_⟩)⟩
          have hj : j < skF (isL X) (X.length - q) q - q := hj
          exact skF_all (c := isL X) (X.length - q) q (q + j) (by omega) (by omega)
      · rw [skF, if_pos (show isB X q = true from decide_eq_true z)] at hs
        exact ih (q + 1) _ (by omega) hs (fr.si (by omega) (by omega)) (by rw [gi_si_s, e, nI_1])
  exact M_X2_readToken_11 (go (X.length - p) p σ (by omega) rfl Fr.rf e3)
theorem mean_le {c : Nat} : mean c = 9 ∨ mean c ≤ 5 := by
  rw [mean]
  split
  · omega
  · split
    · omega
    · split
      · omega
      · split
        · omega
        · split
          · omega
          · split <;> omega
abbrev numOk (X : List Nat) (p lo : Nat) (w : Int) : Prop := (tok X p).1 = 7 ∧ lo ≤ (tok X p).2.2.2 ∧ ((tok X p).2.2.2 : Int) ≤ w
theorem C_number {E : EV} {Q : Sg → Int32 → Prop} {σ : Sg} {X : List Nat} {p lo : Nat} {w : Int32} (hX : okX X) (h : TxC σ X) (hp : p ≤ X.length) (e3 : gi σ 1103 = nI p) (hlo : lo ≤ 99) (hq : ∀ τ, Fr 11 11 σ τ → TkC τ X p → Q τ (bi (numOk X p lo w.toInt))) : MetI E mi_X2_readNumber [.ref 11, .int (nI lo), .int w] σ Q := by
  refine M_X2_readNumber_11 (C_token hX h hp e3 (fun τ f hT => ?_))
  have hh := hq τ f hT
  have hk : gi τ 1104 = 2 ↔ (tok X p).1 = 7 := by
    rcases hT.2 with z | z | z | z | z
    · rw [z.1, z.2]; decide
    · rw [z.1]
      have := @mean_le (cdW X (tok X p).2.1 (tok X p).2.2.1)
      exact ⟨fun y => absurd y (by decide), fun y => by omega⟩
    · rw [z.1, z.2.1]; decide
    · rw [z.1, z.2]; decide
    · rw [z.1, z.2]; decide
  rw [hk]
  refine ⟨fun z => q0 hh (fun y => z y.1), fun z => ?_⟩
  obtain ⟨-, -, ev, hv⟩ : gi τ 1104 = 2 ∧ (tok X p).1 = 7 ∧ gi τ 1105 = nI (tok X p).2.2.2 ∧ (tok X p).2.2.2 ≤ 99 := by
    have z2 := hk.mpr z
    rcases hT.2 with y | y | y | y | y
    · rw [y.1] at z2; exact absurd z2 (by decide)
    · rw [y.1] at z2; exact absurd z2 (by decide)
    · exact y
    · rw [y.1] at z2; exact absurd z2 (by decide)
    · rw [y.1] at z2; exact absurd z2 (by decide)
  rw [ev, nI_ltI (by omega) (by omega), Int32.lt_iff_toInt_lt, nIt (by omega)]
  exact ⟨fun y => q0 hh (fun x => by have := x.2.1; omega), fun y => ⟨fun y2 => q0 hh (fun x => by have := x.2.2; omega), fun y2 => q1 hh ⟨z, by omega, by omega⟩⟩⟩
theorem C_stop {E : EV} {Q : Sg → Int32 → Prop} {σ : Sg} {X : List Nat} {p : Nat} (hX : okX X) (h : TxC σ X) (hp : p ≤ X.length) (e3 : gi σ 1103 = nI p) (hq : ∀ τ, Fr 11 11 σ τ → TkC τ X p → Q τ (bi ((tok X p).1 = 8))) : MetI E mi_X2_readStop [.ref 11] σ Q := by
  refine M_X2_readStop_11 (C_token hX h hp e3 (fun τ f hT => ?_))
  have hh := hq τ f hT
  have hk : gi τ 1104 = 3 ↔ (tok X p).1 = 8 := by
    rcases hT.2 with z | z | z | z | z
    · rw [z.1, z.2]; decide
    · rw [z.1]
      have := @mean_le (cdW X (tok X p).2.1 (tok X p).2.2.1)
      exact ⟨fun y => absurd y (by decide), fun y => by omega⟩
    · rw [z.1, z.2.1]; decide
    · rw [z.1, z.2]; decide
    · rw [z.1, z.2]; decide
  rw [hk]
  exact ⟨fun z => q0 hh z, fun z => q1 hh z⟩
