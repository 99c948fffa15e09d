/-! ===== the class: whole texts ===== -/
theorem tok_adv {X : List Nat} {p : Nat} (hp : p ≤ X.length) (h : kd X p ≠ 6) : st X p < en X p := by
  have h0 := @skF_le (isB X) (X.length - p) p
  rw [kd] at h
  rw [st, en]
  rw [tok] at h ⊢
  generalize skF (isB X) (X.length - p) p = s at h h0
  rw [tokAt] at h ⊢
  by_cases c1 : X.length ≤ s
  · rw [if_pos c1] at h; exact absurd rfl h
  · rw [if_neg c1] at h ⊢
    obtain ⟨f, hf⟩ : ∃ f, X.length - s = f + 1 := ⟨X.length - s - 1, by omega⟩
    by_cases c2 : isL X s = true
    · rw [if_pos c2]
      show s < skF (isL X) (X.length - s) s
      rw [hf, skF, if_pos c2]
      have := @skF_le (isL X) f (s + 1)
      omega
    · rw [if_neg c2]
      by_cases c3 : isD X s = true
      · rw [if_pos c3]
        show s < skF (isD X) (X.length - s) s
        rw [hf, skF, if_pos c3]
        have := @skF_le (isD X) f (s + 1)
        omega
      · rw [if_neg c3]
        split
        · exact Nat.lt_succ_self s
        · exact Nat.lt_succ_self s
theorem le_en {X : List Nat} {p : Nat} (hp : p ≤ X.length) : p ≤ en X p := by
  have := tok_le hp
  exact Nat.le_trans this.1 this.2.2.1
theorem item_ok {X : List Nat} {p : Nat} {P : List Nat} {L : List Ev} {p' : Nat} {P' : List Nat} {L' : List Ev} (hp : p ≤ X.length) (h : okR P L) (e : item X p P L = .inr (p', P', L')) : p < p' ∧ p' ≤ X.length ∧ okR P' L' := by
  have hs : p ≤ st X p := (tok_le hp).1
  have l1 := en_le hp
  have l2 := en_le l1
  have l3 := en_le l2
  have l4 := en_le l3
  have m1 := le_en l1
  have m2 := le_en l2
  have m3 := le_en l3
  have m4 := le_en l4
  rw [item] at e
  split at e
  · rename_i k
    have adv := tok_adv hp (by rw [k]; decide)
    rw [itemP] at e
    split at e
    · cases e
    · split at e
      · cases e
      · split at e
        · cases e
        · rename_i a1 a2 a3
          cases e
          have a2 := Decidable.not_not.mp a2
          refine ⟨by omega, en_le l2, okR_P h (by omega) ?_⟩
          have : vl X (en X p) ≤ 3 := by have := a2.2.2; show (tok X (en X p)).2.2.2 ≤ 3; omega
          omega
  · split at e
    · rename_i k5 k
      have adv := tok_adv hp (by omega)
      rw [itemE] at e
      split at e
      · cases e
      · split at e
        · cases e
        · split at e
          · cases e
          · split at e
            · cases e
            · split at e
              · cases e
              · rename_i a0 a1 a2 a3 a4
                have a0 := Decidable.not_not.mp a0
                have a1 := Decidable.not_not.mp a1
                have a2 := Decidable.not_not.mp a2
                have a3 := Decidable.not_not.mp a3
                cases e
                have n1 := en_le l4
                refine ⟨by omega, n1, okR_E h k a0 a1.2.1 (by have := a1.2.2; show (tok X (en X p)).2.2.2 ≤ 99; omega) (by have := a2.2.2; show (tok X (en X (en X p))).2.2.2 < P.length; omega) a3.2⟩
    · cases e
theorem C_item {E : EV} {Q : Sg → Int32 → Prop} {σ : Sg} {X : List Nat} {p : Nat} {P : List Nat} {L : List Ev} (hX : okX X) (h : TxC σ X) (hp : p ≤ X.length) (hT : TkC σ X p) (hF : FoC σ 12 P) (hE : EvC σ 14 (L, lastD L)) (hR : okR P L) (hqF : ∀ s, item X p P L = .inl s → ∀ τ, Fr 11 19 σ τ → gi τ 1106 = nI s → Q τ 0) (hqO : ∀ p' P' L', item X p P L = .inr (p', P', L') → ∀ τ, Fr 11 19 σ τ → gi τ 1103 = nI p' → FoC τ 12 P' → EvC τ 14 (L', lastD L') → Q τ 1) : MetI E mi_X2_readItem [.ref 11] σ Q := by
  obtain ⟨q1, q2, q3, q4⟩ := tok_le hp
  have bad : ¬ kd X p ≤ 5 → item X p P L = .inl (st X p) := fun z => by
    rw [item, if_neg (by omega), if_neg (by omega)]
  refine M_X2_readItem_11 ⟨fun w => ?_, fun w => ?_⟩
  · obtain ⟨k, hl⟩ : kd X p = mean (cdW X (tok X p).2.1 (tok X p).2.2.1) ∧ ∀ j, j < (tok X p).2.2.1 - (tok X p).2.1 → isL X ((tok X p).2.1 + j) = true := by
      rcases hT.2 with y | y | y | y | y
      · rw [y.1] at w; exact absurd w (by decide)
      · exact y.2
      · rw [y.1] at w; exact absurd w (by decide)
      · rw [y.1] at w; exact absurd w (by decide)
      · rw [y.1] at w; exact absurd w (by decide)
    refine C_isW_900 hX h q3 q4 hT.1.1 hT.1.2 hl ⟨fun z => ?_, fun z => ?_⟩
    · rw [bi_0] at z
      have z5 : ¬ kd X p = 5 := fun y => z (mean_5.mp (k.symm.trans y))
      refine C_sort hX h q3 q4 hT.1.1 hT.1.2 hl ⟨fun y => ?_, fun y => ?_⟩
      all_goals rw [sortI, ← k] at y
      · by_cases k4 : kd X p ≤ 4
        · rw [if_pos k4] at y; exact absurd y (nI_pos (by omega))
        · exact hqF _ (bad (by omega)) σ Fr.rf hT.1.2
      · by_cases k4 : kd X p ≤ 4
        · have e : item X p P L = itemE X p P L := by rw [item, if_neg z5, if_pos k4]
          rw [e] at hqF hqO
          rw [sortI, ← k, if_pos k4]
          exact C_evItem hX h hp hT k4 hF hE hR (fun s e τ f a => ⟨fun _ => hqF s e τ f a, fun c => absurd rfl c⟩) (fun p' P' L' e τ f a b c => ⟨fun d => absurd d (by decide), fun _ => hqO p' P' L' e τ f a b c⟩)
        · rw [if_neg k4] at y; exact absurd (by decide) y
    · rw [bi_n0] at z
      have z5 : kd X p = 5 := k.trans (mean_5.mpr z)
      have e : item X p P L = itemP X p P L := by rw [item, if_pos z5]
      rw [e] at hqF hqO
      exact C_person hX h hp hT hF hR.1.1 hE (fun s e τ f a => ⟨Or.inl rfl, hqF s e τ f a⟩) (fun p' P' L' e τ f a b c => ⟨Or.inr rfl, hqO p' P' L' e τ f a b c⟩)
  · have k : ¬ kd X p ≤ 5 := by
      rcases hT.2 with y | y | y | y | y
      · rw [kd, y.2]; omega
      · exact absurd y.1 w
      · rw [kd, y.2.1]; omega
      · rw [kd, y.2]; omega
      · rw [kd, y.2]; omega
    exact hqF _ (bad k) σ Fr.rf hT.1.2
abbrev Txt : Type := Nat ⊕ (Nat × List Nat × List Ev)
def rdI (f : Nat → List Nat → List Ev → Txt) : Itm → Txt
  | .inl s => .inl s
  | .inr (p, P, L) => f p P L
def rdT (X : List Nat) : Nat → Nat → List Nat → List Ev → Nat → Txt
  | 0, _, _, _, _ => .inl 0
  | f + 1, p, P, L, n => if kd X p = 6 then .inr (n, P, L) else rdI (fun p' P' L' => rdT X f p' P' L' (n + 1)) (item X p P L)
theorem C_textLoop {E : EV} {Q : Sg → Int32 → Prop} {X : List Nat} (hX : okX X) : ∀ (f p n : Nat) (P : List Nat) (L : List Ev) (σ : Sg), p ≤ X.length → X.length < p + f → n ≤ p → TxC σ X → gi σ 1103 = nI p → FoC σ 12 P → EvC σ 14 (L, lastD L) → okR P L → (∀ s, rdT X f p P L n = .inl s → ∀ τ, Fr 11 19 σ τ → gi τ 1106 = nI s → Q τ (-1)) → (∀ n' P' L', rdT X f p P L n = .inr (n', P', L') → ∀ τ, Fr 11 19 σ τ → FoC τ 12 P' → EvC τ 14 (L', lastD L') → okR P' L' → n' ≤ 400 → Q τ (nI n')) → K_X2_readText_11_22 E Q σ (nI n)
  | 0, p, n, P, L, σ, hp, hf, _, _, _, _, _, _, _, _ => absurd hf (by omega)
  | f + 1, p, n, P, L, σ, hp, hf, hn, h, e3, hF, hE, hR, hqF, hqO => by
    have hL := hX.1
    rw [rdT] at hqF hqO
    refine B_X2_readText_11_22 ⟨fun z => ?_, fun _ => C_token hX h hp e3 (fun τ f1 hT => ⟨fun z => ?_, fun z => ?_⟩)⟩
    · rw [show (400 : Int32) = nI 400 from rfl, nI_ltI (by omega) (by omega)] at z; omega
    · have k : ¬ kd X p = 6 := fun w => by
        rcases hT.2 with y | y | y | y | y
        · exact z y.1
        · have := @mean_le (cdW X (tok X p).2.1 (tok X p).2.2.1)
          exact absurd (y.2.1.symm.trans w) (by omega)
        · exact absurd (y.2.1.symm.trans w) (by decide)
        · exact absurd (y.2.symm.trans w) (by decide)
        · exact absurd (y.2.symm.trans w) (by decide)
      rw [if_neg k] at hqF hqO
      refine C_item hX (h.fr f1 (by omega)) hp hT (hF.fr f1 (by omega)) (hE.fr f1 (by omega)) hR (fun s e υ f2 a => ⟨fun c => absurd rfl c, fun _ => hqF s (by rw [e]; rfl) υ ((f1.mono (by omega) (by omega)).tr f2) a⟩) (fun p' P' L' e υ f2 a b c => ⟨fun _ => ?_, fun c => absurd c (by decide)⟩)
      obtain ⟨o1, o2, o3⟩ := item_ok hp hR e
      have fr := (f1.mono (lo2 := 11) (hi2 := 19) (by omega) (by omega)).tr f2
      rw [nI_1]
      rw [e] at hqF hqO
      exact C_textLoop hX f p' (n + 1) P' L' υ o2 (by omega) (by omega) (h.fr fr (by omega)) a b c o3 (fun s e3 φ f3 a3 => hqF s e3 φ (fr.tr f3) a3) (fun n2 P2 L2 e3 φ f3 a3 b3 => hqO n2 P2 L2 e3 φ (fr.tr f3) a3 b3)
    · have k : kd X p = 6 := by
        rcases hT.2 with y | y | y | y | y
        · exact y.2
        · rw [y.1] at z; exact absurd z (by decide)
        · rw [y.1] at z; exact absurd z (by decide)
        · rw [y.1] at z; exact absurd z (by decide)
        · rw [y.1] at z; exact absurd z (by decide)
      rw [if_pos k] at hqO
      exact hqO n P L rfl τ (f1.mono (by omega) (by omega)) (hF.fr f1 (by omega)) (hE.fr f1 (by omega)) hR (by omega)
def S_tellR (A : Ab) : Txt → Int32 × Ab
  | .inl s => (-10 - nI s, A)
  | .inr (n, P, L) => (nI n, (P, (L, lastD L), [], none, none, A.2.2.2.2.2))
def S_tell (A : Ab) : Int32 × Ab := S_tellR A (rdT A.2.2.1 (A.2.2.1.length + 1) 0 [] [] 0)
theorem okR_nil : okR [] [] := ⟨⟨Nat.zero_le _, fun k hk => absurd hk (Nat.not_lt_zero k)⟩, Nat.zero_le _, Nat.zero_le _, Nat.zero_le _, fun k hk => absurd hk (Nat.not_lt_zero k), fun j k _ hk => absurd hk (Nat.not_lt_zero k), fun k hk => absurd hk (Nat.not_lt_zero k)⟩
theorem C_tellText {E : EV} {Q : Sg → Int32 → Prop} {σ : Sg} {A : Ab} (h : RepC σ A) (g : Good A) (hq : ∀ τ, Fr 0 39 σ τ → RepC τ (S_tell A).2 → Q τ (S_tell A).1) : MetI E mi_X5_tell [.ref 0] σ Q := by
  have hX := g.2.2.1
  have hL := hX.1
  have f0 : Fr 11 19 σ (si (si (si (si (si σ 1103 0) 1201 0) 1405 0) 1406 0) 1407 0) := ((((Fr.rf.si (by omega) (by omega)).si (by omega) (by omega)).si (by omega) (by omega)).si (by omega) (by omega)).si (by omega) (by omega)
  refine M_X5_tell (M_X2_readText_11 (M_X0_forget_14 ?_))
  refine C_textLoop (n := 0) (p := 0) (P := []) (L := []) hX (A.2.2.1.length + 1) (σ := si (si (si (si (si σ 1103 0) 1201 0) 1405 0) 1406 0) 1407 0) (Nat.zero_le _) (by omega) (Nat.le_refl 0) (h.2.2.1.fr f0 (by omega)) rfl ⟨rfl, fun k hk => absurd hk (Nat.not_lt_zero k)⟩ ⟨rfl, rfl, rfl, fun k hk => absurd hk (Nat.not_lt_zero k)⟩ okR_nil (fun s e τ f a => ⟨fun z => absurd z (by decide), fun _ => ?_⟩) (fun n P L e τ f a b o hn => ⟨fun _ => ?_, fun z => absurd (nI_pos' (by omega)) z⟩)
  · have hh := hq τ ((f0.tr f).mono (by omega) (by omega))
    rw [S_tell, e] at hh
    rw [a]
    exact hh (h.fr (f0.tr f) (by omega))
  · have hR : RepC τ A := h.fr (f0.tr f) (by omega)
    refine M_X1_takeFrom_3_12 ?_
    have f1 : Fr 3 4 τ (si (sa τ 4 (va_cpy (gm τ 13) (gm τ 4) ((0 : Int32)).toNatClampNeg ((0 : Int32)).toNatClampNeg ((8 : Int32)).toNatClampNeg)) 301 (gi τ 1201)) := (Fr.rf.sa (by omega) (by omega)).si (by omega) (by omega)
    refine C_take_5_14 (b.fr f1 (by omega)) o.2.1 (fun υ f2 hE => ?_)
    have hh := hq _ ((((((f0.tr f).mono (lo2 := 0) (hi2 := 39) (by omega) (by omega)).tr (f1.mono (by omega) (by omega))).tr (f2.mono (by omega) (by omega))).si (k := 101) (v := 0) (by omega) (by omega)).si (k := 6) (v := 0) (by omega) (by omega) |>.si (k := 7) (v := 0) (by omega) (by omega))
    rw [S_tell, e] at hh
    have f3 : Fr 0 1 υ (si (si (si υ 101 0) 6 0) 7 0) := ((Fr.rf.si (by omega) (by omega)).si (by omega) (by omega)).si (by omega) (by omega)
    refine hh ⟨⟨?_, fun k hk => ?_⟩, hE.fr f3 (by omega), ⟨rfl, fun k hk => absurd hk (Nat.not_lt_zero k)⟩, rfl, rfl, ?_⟩
    · rw [f3.gi (by omega), f2.gi (by omega), gi_si_s]; exact a.1
    · rw [f3.gm (by omega), f2.gm (by omega)]
      show va_cpy (gm τ 13) (gm τ 4) _ _ _ k = _
      have hk8 : k < P.length := hk
      have := o.1.1
      exact (sb_cpy0 (n := 8) (by omega)).trans (a.2 k hk)
    · show gl υ 10 = _
      rw [f2.gl (by omega)]; exact hR.2.2.2.2.2
