/-! ===== the reference: the next TOKEN, what is due ===== -/
def TkM (σ : Sg) (X : List Nat) (p : Nat) : Prop := gi σ 4012 = nI (en X p) ∧ gi σ 4013 = nI (st X p) ∧ gi σ 4014 = nI (kd X p) ∧ (kd X p = 7 → gi σ 4015 = nI (vl X p) ∧ vl X p ≤ 99)
theorem R_next {E : EV} {Q : Sg → Prop} {σ : Sg} {X : List Nat} {p : Nat} (hX : okX X) (h : TxM σ X) (hp : p ≤ X.length) (e2 : gi σ 4012 = nI p) (hq : ∀ τ, Fx [4012, 4013, 4014, 4015] 58 57 σ τ → TkM τ X p → Q τ) : MetV E mi_X6_next [.ref 40] σ Q := by
  have hL := hX.1
  have c59 : ∀ x, x < 256 → (nI x = (59 : Int32) ↔ x = 59) := fun x hx => ⟨fun z => inj_nI (by omega) (by omega) z, fun z => by rw [z]; rfl⟩
  have c32 : ∀ x, x < 256 → (nI x = (32 : Int32) ↔ x = 32) := fun x hx => ⟨fun z => inj_nI (by omega) (by omega) z, fun z => by rw [z]; rfl⟩
  have go : ∀ (f q : Nat) (τ : Sg), q + f = X.length → skF (isB X) f q = skF (isB X) (X.length - p) p → Fx [4012, 4013, 4014, 4015] 58 57 σ τ → gi τ 4012 = nI q → K_X6_next_0 E Q τ := by
    intro f
    induction f with
    | zero =>
      intro q τ hq2 hs fr e
      have hT : TxM τ X := h.fx fr (by simp) (by omega)
      rw [skF] at hs
      have ht : tok X p = (6, q, q, 0) := by rw [tok, ← hs, tokAt, if_pos (by omega)]
      have fr2 : Fx [4012, 4013, 4014, 4015] 58 57 σ (si (si τ 4013 (gi τ 4012)) 4015 0) := (fr.si (by simp)).si (by simp)
      refine B_X6_next_0 (R_hereE hT e (by omega) (by omega) ⟨fun _ => R_hereE (h.fx fr2 (by simp) (by omega)) e (by omega) (by omega) ⟨fun z => absurd z (by decide), fun _ => hq _ (fr2.si (by simp)) ?_⟩, fun z => absurd z (by decide)⟩)
      rw [TkM, en, st, kd, vl, ht]
      exact ⟨e, e, rfl, fun w => absurd w (by show ¬ 6 = 7; decide)⟩
    | succ f ih =>
      intro q τ hq2 hs fr e
      have hT : TxM τ X := h.fx fr (by simp) (by omega)
      have hb := gd_lt hX q
      refine B_X6_next_0 (R_here hT hX e (by omega) ⟨fun z => ?_, fun z => ?_⟩)
      all_goals rw [c32 _ hb] at z
      · rw [skF, if_neg (show ¬ isB X q = true from fun w => z (of_decide_eq_true w))] at hs
        have fr2 : Fx [4012, 4013, 4014, 4015] 58 57 σ (si (si τ 4013 (gi τ 4012)) 4015 0) := (fr.si (by simp)).si (by simp)
        have hT2 : TxM (si (si τ 4013 (gi τ 4012)) 4015 0) X := h.fx fr2 (by simp) (by omega)
        refine R_here hT2 hX e (by omega) ⟨fun _ => R_inN (a := 97) (b := 122) (by omega) (by omega) (by omega) ⟨fun z1 => R_inN (a := 48) (b := 57) (by omega) (by omega) (by omega) ⟨fun z2 => ⟨fun z3 => ?_, fun z3 => ?_⟩, fun z2 => ?_⟩, fun z1 => ?_⟩, fun y => absurd (nI_pos' (by omega)) y⟩
        · rw [bi_0] at z1 z2
          rw [c59 _ hb] at z3
          have zl : ¬ isL X q = true := fun w => z1 (of_decide_eq_true w)
          have zd : ¬ isD X q = true := fun w => z2 (of_decide_eq_true w)
          have ht : tok X p = (9, q, q + 1, 0) := by rw [tok, ← hs, tokAt, if_neg (by omega), if_neg zl, if_neg zd, if_neg z3]
          refine hq _ ((fr2.si (by simp)).si (by simp)) ?_
          rw [TkM, en, st, kd, vl, ht]
          refine ⟨?_, e, rfl, fun w => absurd w (by show ¬ 9 = 7; decide)⟩
          show gi τ 4012 + 1 = nI (q + 1)
          rw [e, nI_1]
        · rw [bi_0] at z1 z2
          rw [c59 _ hb] at z3
          have zl : ¬ isL X q = true := fun w => z1 (of_decide_eq_true w)
          have zd : ¬ isD X q = true := fun w => z2 (of_decide_eq_true w)
          have ht : tok X p = (8, q, q + 1, 0) := by rw [tok, ← hs, tokAt, if_neg (by omega), if_neg zl, if_neg zd, if_pos z3]
          refine hq _ ((fr2.si (by simp)).si (by simp)) ?_
          rw [TkM, en, st, kd, vl, ht]
          refine ⟨?_, e, rfl, fun w => absurd w (by show ¬ 8 = 7; decide)⟩
          show gi τ 4012 + 1 = nI (q + 1)
          rw [e, nI_1]
        · rw [bi_0] at z1
          rw [bi_n0] at z2
          have zl : ¬ isL X q = true := fun w => z1 (of_decide_eq_true w)
          have zd : isD X q = true := decide_eq_true z2
          have ht : tok X p = (if dv X (X.length - q) q 0 ≤ 99 ∧ ¬ (gd X q = 48 ∧ 1 < skF (isD X) (X.length - q) q - q) then 7 else 9, q, skF (isD X) (X.length - q) q, dv X (X.length - q) q 0) := by rw [tok, ← hs, tokAt, if_neg (by omega), if_neg zl, if_pos zd]
          refine R_digits hX (by omega) (X.length - q) q 0 _ (by omega) (Nat.le_refl q) (by omega) hT2 e e rfl (fun υ w' f2 a1 a2 a3 a4 a5 => hq υ (fr2.tr f2) ?_)
          rw [Nat.min_eq_left (a := 0) (by omega)] at a4 a5
          rw [TkM, en, st, kd, vl, ht]
          refine ⟨a1, a2, a5, fun w => ?_⟩
          have w : (if dv X (X.length - q) q 0 ≤ 99 ∧ ¬ (gd X q = 48 ∧ 1 < skF (isD X) (X.length - q) q - q) then 7 else 9) = 7 := w
          have w9 : dv X (X.length - q) q 0 ≤ 99 := by
            by_cases y : dv X (X.length - q) q 0 ≤ 99 ∧ ¬ (gd X q = 48 ∧ 1 < skF (isD X) (X.length - q) q - q)
            · exact y.1
            · rw [if_neg y] at w; omega
          refine ⟨?_, w9⟩
          rw [a3]; exact congrArg nI (by show w' = dv X (X.length - q) q 0; omega)
        · rw [bi_n0] at z1
          have zl : isL X q = true := decide_eq_true z1
          have ht : tok X p = (mean (cdW X q (skF (isL X) (X.length - q) q)), q, skF (isL X) (X.length - q) q, 0) := by rw [tok, ← hs, tokAt, if_neg (by omega), if_pos zl]
          refine R_word (s := q) hX (X.length - q) 0 _ (by omega) hT2 e e (fun i hi => absurd hi (by omega)) (fun υ f2 a1 a2 a3 => hq υ (fr2.tr f2) ?_)
          rw [TkM, en, st, kd, vl, ht]
          refine ⟨a1, a2, a3, fun w => ?_⟩
          have w : mean (cdW X q (skF (isL X) (X.length - q) q)) = 7 := w
          have := @mean_le (cdW X q (skF (isL X) (X.length - q) q))
          omega
      · rw [skF, if_pos (show isB X q = true from decide_eq_true z)] at hs
        exact ih (q + 1) _ (by omega) hs (fr.si (by simp)) (by rw [gi_si_s, e, nI_1])
  exact M_X6_next (go (X.length - p) p σ (by omega) rfl Fx.rf e2)
theorem R_dueF {E : EV} {Q : Sg → Int32 → Prop} {σ : Sg} {a : Int32} (hf : ¬ gi σ 4016 = -9) (hq : Q σ (gi σ 4015)) : MetI E mi_X6_due [.ref 40, .int a] σ Q := M_X6_due ⟨fun _ => hq, fun z => absurd z hf⟩
theorem R_due0 {E : EV} {Q : Sg → Int32 → Prop} {σ : Sg} (hf : gi σ 4016 = -9) (hq : Q (si σ 4016 (gi σ 4013)) (gi σ 4015)) : MetI E mi_X6_due [.ref 40, .int 0] σ Q := M_X6_due ⟨fun z => absurd hf z, fun _ => ⟨fun _ => hq, fun z => absurd rfl z⟩⟩
theorem R_due1 {E : EV} {Q : Sg → Int32 → Prop} {σ : Sg} {X : List Nat} {p : Nat} (hX : okX X) (h : TxM σ X) (hp : p ≤ X.length) (hT : TkM σ X p) (hf : gi σ 4016 = -9) (hq : ∀ τ, Fx [4012, 4013, 4014, 4015] 58 57 σ τ → gi τ 4016 = -9 → TkM τ X (en X p) → Q τ (gi σ 4015)) : MetI E mi_X6_due [.ref 40, .int 1] σ Q :=
  M_X6_due ⟨fun z => absurd hf z, fun _ => ⟨fun z => absurd z (by decide), fun _ => R_next hX h (en_le hp) hT.1 (fun τ f hT2 => hq τ f ((f.1 4016 (by simp)).trans hf) hT2)⟩⟩
theorem R_numF {E : EV} {Q : Sg → Int32 → Prop} {σ : Sg} {a b : Int32} (hf : ¬ gi σ 4016 = -9) (hq : Q σ (gi σ 4015)) : MetI E mi_X6_number [.ref 40, .int a, .int b] σ Q :=
  M_X6_number ⟨fun _ => R_dueF hf hq, fun _ => R_in ⟨fun _ => R_dueF hf hq, fun _ => R_dueF hf hq⟩⟩
theorem st_9 {X : List Nat} {p : Nat} (hX : okX X) (hp : p ≤ X.length) : ¬ nI (st X p) = -9 := by
  have h1 : st X p ≤ X.length := (tok_le hp).2.1
  have h2 := hX.1
  exact day_9 (by omega)
/-- a number, or a fault -/
theorem R_num {E : EV} {Q : Sg → Int32 → Prop} {σ : Sg} {X : List Nat} {p lo : Nat} {w : Int32} (hX : okX X) (h : TxM σ X) (hp : p ≤ X.length) (hT : TkM σ X p) (hf : gi σ 4016 = -9) (hlo : lo ≤ 99) (hqO : numOk X p lo w.toInt → ∀ τ, Fx [4012, 4013, 4014, 4015] 58 57 σ τ → gi τ 4016 = -9 → TkM τ X (en X p) → Q τ (nI (vl X p))) (hqF : ¬ numOk X p lo w.toInt → ∀ v, Q (si σ 4016 (nI (st X p))) v) : MetI E mi_X6_number [.ref 40, .int (nI lo), .int w] σ Q := by
  have k7 : gi σ 4014 = 7 ↔ kd X p = 7 := by
    have hk : kd X p ≤ 9 := by
      rw [kd, tok, tokAt]
      split
      · exact (by decide : 6 ≤ 9)
      · split
        · have := @mean_le (cdW X (skF (isB X) (X.length - p) p) (skF (isL X) (X.length - skF (isB X) (X.length - p) p) (skF (isB X) (X.length - p) p)))
          show mean _ ≤ 9; omega
        · split
          · show (if _ then 7 else 9) ≤ 9
            split <;> omega
          · split
            · exact (by decide : 8 ≤ 9)
            · exact (by decide : 9 ≤ 9)
    rw [hT.2.2.1]
    exact ⟨fun z => inj_nI (by omega) (by omega) z, fun z => by rw [z]; rfl⟩
  have bad : ¬ numOk X p lo w.toInt → MetI E mi_X6_due [.ref 40, .int 0] σ Q := fun z => R_due0 hf (by rw [hT.2.1]; exact hqF z _)
  refine M_X6_number ⟨fun z => ?_, fun z => ?_⟩
  · rw [k7] at z; exact bad (fun y => z y.1)
  · rw [k7] at z
    obtain ⟨v1, v2⟩ := hT.2.2.2 z
    rw [v1]
    refine R_in ⟨fun y => ?_, fun y => ?_⟩
    · rw [bi_0, nIt (by omega), nIt (by omega)] at y
      exact bad (fun x => y ⟨by have := x.2.1; show (lo : Int) ≤ (vl X p : Int); exact Int.ofNat_le.mpr this, x.2.2⟩)
    · rw [bi_n0, nIt (by omega), nIt (by omega)] at y
      refine R_due1 hX h hp hT hf (fun τ f a b => ?_)
      rw [v1]
      exact hqO ⟨z, Int.ofNat_le.mp y.1, y.2⟩ τ f a b
