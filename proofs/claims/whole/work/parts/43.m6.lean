/-! ===== the reference: all events ===== -/
theorem evS_m {n t : Nat} {y m : Int32} {e : Ev} {S : SS} (h : e.1 ≠ 1 ∨ ¬ m = 0) : evS n t y 1 e S = evS n t y m e S := by
  rw [evS, evS]
  by_cases h0 : e.1 = 0
  · rw [if_pos h0, if_pos h0]
  · rw [if_neg h0, if_neg h0]
    by_cases h1 : e.1 = 1
    · rw [if_pos h1, if_pos h1, if_neg (by decide), if_neg (h.resolve_left (fun z => z h1))]
    · rw [if_neg h1, if_neg h1]
theorem anyB_iff {F : Nat → SS} {p : Nat} : ∀ j, anyB F p j = true ↔ ∃ t, t < j ∧ ¬ (F t).2.1 p = 0
  | 0 => by rw [anyB]; exact ⟨fun h => absurd h (by decide), fun ⟨t, h, _⟩ => absurd h (by omega)⟩
  | j + 1 => by
    rw [anyB, Bool.or_eq_true, anyB_iff j, Bool.not_eq_true', decide_eq_false_iff_not]
    constructor
    · rintro (⟨t, h1, h2⟩ | h)
      · exact ⟨t, by omega, h2⟩
      · exact ⟨j, by omega, h⟩
    · rintro ⟨t, h1, h2⟩
      by_cases e : t = j
      · subst e; exact Or.inr h2
      · exact Or.inl ⟨t, by omega, h2⟩
/-- whether a maybe one is of those that carry nothing -/
def emO (l : List Ev) (k : Nat) (F : Nat → SS) : Int32 := if (ge l k).1 = 1 ∧ ¬ anyB F (ge l k).2.2.1 4 = true then one (mc (l.take k)) else 0
theorem R_ev2 {E : EV} {Q : Sg → Prop} {σ : Sg} {A : Ab} {k : Nat} {y d set v3 v5 : Int32} {F : Nat → SS} (h : RepM σ A) (g : Good A) (hk : k < A.2.1.1.length) (e27 : gi σ 4027 = y) (e26 : gi σ 4026 = d) (hF : AllM σ A.1.length F) (hm : (v5 = 0 ∧ (ge A.2.1.1 k).1 = 1 ∧ set &&& mb A.2.1.1 k = 0) ∨ (v5 = 1 ∧ ((ge A.2.1.1 k).1 ≠ 1 ∨ ¬ set &&& mb A.2.1.1 k = 0))) (hq : ∀ τ, Fx [] 51 55 σ τ → AllM τ A.1.length (fun t => evS A.1.length t (stayY y d (ge A.2.1.1 k)) (set &&& mb A.2.1.1 k) (ge A.2.1.1 k) (F t)) → K_X6_go_95 E Q τ set (nI (mc (A.2.1.1.take (k + 1)))) v3 (nI (k + 1))) : K_X6_go_198 E Q σ set (nI (mc (A.2.1.1.take k))) v3 (nI k) v5 := by
  have hL := g.2.1.1
  obtain ⟨g1, -, -, -⟩ := h.2.1.2.2 k hk
  simp only [Nat.mul_zero, Nat.zero_add] at g1
  obtain ⟨o1, o2, o3, o4⟩ := ev_ge g.2.1 hk
  have hms := mc_step hk
  have step : ∀ v2, v2 = nI (mc (A.2.1.1.take (k + 1))) → ((v5 = 0) → K_X6_go_228 E Q σ set v2 v3 (nI k) v5) ∧ ((¬ v5 = 0) → MetV E mi_X6_goEvent [.ref 40, .int (nI k)] σ (fun τ3 => K_X6_go_228 E Q τ3 set v2 v3 (nI k) v5)) := by
    intro v2 hv
    rw [hv]
    refine ⟨fun z => ?_, fun z => ?_⟩
    · obtain ⟨-, z1, z2⟩ := hm.resolve_right (fun w => by rw [w.1] at z; exact absurd z (by decide))
      refine B_X6_go_228 ?_
      rw [nI_1]
      refine hq σ Fx.rf (hF.cg (fun t _ => ?_))
      show F t = evS _ t _ _ _ (F t)
      rw [evS, if_neg (by omega), if_pos z1, if_pos z2]
    · obtain ⟨-, z1⟩ := hm.resolve_left (fun w => z w.1)
      refine R_goEvent g.1.1 h.1.1 h.2.1 g.2.1 hk hF (fun τ f hA => B_X6_go_228 ?_)
      rw [nI_1]
      rw [e27, e26] at hA
      exact hq τ f (hA.cg (fun t _ => evS_m z1))
  refine B_X6_go_198 ?_
  rw [cl (n := k) (by omega), g1]
  refine ⟨vpn (by omega) (by omega), fun z => step _ ?_, fun z => step _ ?_⟩
  · rw [hms, if_neg (fun w => z (by rw [w]; rfl)), Nat.add_zero]
    exact Int32.add_zero _
  · have z1 : (ge A.2.1.1 k).1 = 1 := inj_nI (by omega) (by omega) z
    rw [hms, if_pos z1]
    exact nI_1 _
theorem R_ev {E : EV} {Q : Sg → Prop} {σ : Sg} {A : Ab} {k : Nat} {y d set v3 : Int32} {F : Nat → SS} (h : RepM σ A) (g : Good A) (hk : k < A.2.1.1.length) (e27 : gi σ 4027 = y) (e26 : gi σ 4026 = d) (hF : AllM σ A.1.length F) (hq : ∀ τ, Fx [4022] 51 55 σ τ → gi τ 4022 = gi σ 4022 ||| emO A.2.1.1 k F → AllM τ A.1.length (fun t => evS A.1.length t (stayY y d (ge A.2.1.1 k)) (set &&& mb A.2.1.1 k) (ge A.2.1.1 k) (F t)) → K_X6_go_95 E Q τ set (nI (mc (A.2.1.1.take (k + 1)))) v3 (nI (k + 1))) : K_X6_go_130 E Q σ set (nI (mc (A.2.1.1.take k))) v3 (nI k) := by
  have hL := g.2.1.1
  obtain ⟨g1, -, g3, -⟩ := h.2.1.2.2 k hk
  simp only [Nat.mul_zero, Nat.zero_add] at g1 g3
  obtain ⟨o1, o2, o3, o4⟩ := ev_ge g.2.1 hk
  have hP := g.1.1
  have fin : ∀ (v v5 : Int32), v = gi σ 4022 ||| emO A.2.1.1 k F → ((v5 = 0 ∧ (ge A.2.1.1 k).1 = 1 ∧ set &&& mb A.2.1.1 k = 0) ∨ (v5 = 1 ∧ ((ge A.2.1.1 k).1 ≠ 1 ∨ ¬ set &&& mb A.2.1.1 k = 0))) → K_X6_go_198 E Q (si σ 4022 v) set (nI (mc (A.2.1.1.take k))) v3 (nI k) v5 := by
    intro v v5 hv hm
    have f1 : Fx [4022] 51 55 σ (si σ 4022 v) := Fx.si Fx.rf (by simp)
    refine R_ev2 (h.fx f1 (by simp) (by omega)) g hk e27 e26 hF hm (fun τ f hA => hq τ (f1.tr (f.mono (fun k hk => absurd hk List.not_mem_nil) (by omega) (by omega))) ?_ hA)
    rw [f.1 4022 List.not_mem_nil, gi_si_s, hv]
  refine B_X6_go_130 ?_
  rw [cl (n := k) (by omega), g1, g3]
  refine ⟨vpn (by omega) (by omega), fun z => ?_, fun z => ?_⟩
  · have z1 : (ge A.2.1.1 k).1 ≠ 1 := fun w => z (by rw [w]; rfl)
    refine fin _ 1 ?_ (Or.inr ⟨rfl, Or.inl z1⟩)
    rw [emO, if_neg (fun w => z1 w.1)]
  · have z1 : (ge A.2.1.1 k).1 = 1 := inj_nI (by omega) (by omega) z
    have hms := mc_step hk
    rw [if_pos z1] at hms
    have hM := g.2.1.2.1
    have h6 := mc_take (l := A.2.1.1) (k := k + 1)
    have hb := bit_two set (m := mc (A.2.1.1.take k)) (by omega)
    rw [← mb_one z1] at hb
    refine ⟨fun q => R_hasAny hF (by omega) ⟨fun r => ?_, fun r => ?_⟩, fun q => R_hasAny hF (by omega) ⟨fun r => ?_, fun r => ?_⟩⟩
    all_goals rw [hb] at q
    all_goals first | rw [bi_n0] at r | rw [bi_0] at r
    · exact fin _ 0 (by rw [emO, if_neg (fun w => w.2 r)]) (Or.inl ⟨rfl, z1, Decidable.not_not.mp q⟩)
    · exact fin _ 0 (by rw [emO, if_pos ⟨z1, r⟩]; rfl) (Or.inl ⟨rfl, z1, Decidable.not_not.mp q⟩)
    · exact fin _ 1 (by rw [emO, if_neg (fun w => w.2 r)]) (Or.inr ⟨rfl, Or.inr q⟩)
    · exact fin _ 1 (by rw [emO, if_pos ⟨z1, r⟩]; rfl) (Or.inr ⟨rfl, Or.inr q⟩)
/-- once it has been done -/
theorem R_go2 {E : EV} {Q : Sg → Prop} {A : Ab} {y d set : Int32} {n : Nat} (hn : n = A.1.length) (g : Good A) : ∀ (j k : Nat) (σ : Sg) (F : Nat → SS), k + j = A.2.1.1.length → (∀ i, k ≤ i → i < A.2.1.1.length → d ≤ nI (ge A.2.1.1 i).2.1) → RepM σ A → gi σ 4027 = y → gi σ 4026 = d → AllM σ n F → (∀ τ, Fx [4022] 51 55 σ τ → AllM τ n (fun t => runS n t y set A.2.1.1 j k (F t)) → Q τ) → K_X6_go_95 E Q σ set (nI (mc (A.2.1.1.take k))) 1 (nI k)
  | 0, k, σ, F, hj, hd, h, e27, e26, hF, hq => by
    have hL := g.2.1.1
    obtain rfl : k = A.2.1.1.length := by omega
    exact B_X6_go_95 ⟨fun _ => ⟨fun _ => hq σ Fx.rf hF, fun z => absurd z (by decide)⟩, fun z => absurd (by rw [h.2.1.1]; exact nI_le (Nat.le_refl _) (by omega)) z⟩
  | j + 1, k, σ, F, hj, hd, h, e27, e26, hF, hq => by
    have hL := g.2.1.1
    refine B_X6_go_95 ⟨fun z => absurd z (by rw [h.2.1.1]; exact nI_ge (by omega) (by omega)), fun _ => ⟨fun _ => R_ev h g (by omega) e27 e26 (hn ▸ hF) (fun τ f _ hA => ?_), fun z => absurd z (by decide)⟩⟩
    rw [← hn] at hA
    refine R_go2 (y := y) (d := d) hn g j (k + 1) τ _ (by omega) (fun i h1 h2 => hd i (by omega) h2) (h.fx f (by simp) (by omega)) (by rw [f.1 4027 (by simp)]; exact e27) (by rw [f.1 4026 (by simp)]; exact e26) hA (fun υ f2 h2 => hq υ (f.tr f2) (h2.cg (fun t _ => ?_)))
    rw [show stayY y d (ge A.2.1.1 k) = y from if_pos (hd k (Nat.le_refl k) (by omega))]
    rfl
/-- what is told ahead of the f-th event, of that thing -/
def pre (A : Ab) (set : Int32) (f t : Nat) : SS := runS A.1.length t (-9) set A.2.1.1 f 0 (init A.1)
theorem pre_s {A : Ab} {set : Int32} {f t : Nat} : pre A set (f + 1) t = evS A.1.length t (-9) (set &&& mb A.2.1.1 f) (ge A.2.1.1 f) (pre A set f t) := by
  rw [pre, runS_add f 1 0, Nat.zero_add]; rfl
def emG (A : Ab) (set : Int32) : Nat → Int32
  | 0 => 0
  | k + 1 => emG A set k ||| emO A.2.1.1 k (pre A set k)
/-- what is done, then the rest -/
def goT (A : Ab) (set : Int32) (th : Nat) (d : Int32) (m : Nat) (ac : Nat → Bool × Nat) (y w : Int32) (f t : Nat) : SS :=
  runS A.1.length t y set A.2.1.1 (A.2.1.1.length - f) f (stayS y w (if t = th then actN d ac m 0 (pre A set f th) else pre A set f t))
theorem R_go1 {E : EV} {Q : Sg → Prop} {A : Ab} {th m f : Nat} {d y w set : Int32} {ac : Nat → Bool × Nat} (g : Good A) (ht : th < 4) (hm : m ≤ 8) (hd : ¬ d = -9) (hac : ∀ i, i < m → (ac i).2 ≤ 8) (hy : okK A.1.length y) (hf : f ≤ A.2.1.1.length) (hd1 : ∀ i, i < f → nI (ge A.2.1.1 i).2.1 < d) (hd2 : ∀ i, f ≤ i → i < A.2.1.1.length → ¬ nI (ge A.2.1.1 i).2.1 < d) :
    ∀ (j k : Nat) (σ : Sg), k + j = f → RepM σ A → CfgM σ th d m ac y w → gi σ 4022 = emG A set k → AllM σ A.1.length (pre A set k) → (∀ τ, Fx [4022, 4029] 51 55 σ τ → (f < A.2.1.1.length ∨ ¬ 99 < d → gi τ 4029 = hadB (pre A set f th).2.1 8 ∧ AllM τ A.1.length (goT A set th d m ac y w f)) → (99 < d → f = A.2.1.1.length → gi τ 4022 = emG A set f ∧ AllM τ A.1.length (pre A set f)) → Q τ) → K_X6_go_95 E Q σ set (nI (mc (A.2.1.1.take k))) 0 (nI k)
  | 0, k, σ, hj, h, hC, h22, hF, hq => by
    have hL := g.2.1.1
    have hP := g.1.1
    obtain rfl : k = f := by omega
    have cgo : ∀ x, stayS y w (updF (pre A set k) th (actN d ac m 0 (pre A set k th)) x) = stayS y w (if x = th then actN d ac m 0 (pre A set k th) else pre A set k x) := fun x => rfl
    have m1 : ∀ τ, Fx [4029] 51 55 σ τ → Fx [4022, 4029] 51 55 σ τ := fun τ f => f.mono (fun k hk => by simp at hk ⊢; exact Or.inr hk) (by omega) (by omega)
    by_cases hlt : k < A.2.1.1.length
    · have g2 : gm σ 47 k = nI (ge A.2.1.1 k).2.1 := by
        have := (h.2.1.2.2 k hlt).2.1
        simpa only [Nat.mul_zero, Nat.zero_add] using this
      have h99 : ¬ 99 < d := by
        have q := hd2 k (Nat.le_refl k) hlt
        rw [Int32.lt_iff_toInt_lt] at q ⊢
        have e1 := g.2.1.2.2.2.2.2 k hlt
        have e2 := g.2.1.2.2.1
        rw [nIt (by omega)] at q
        rw [show (99 : Int32).toInt = 99 from by decide]
        omega
      refine B_X6_go_95 ⟨fun z => absurd z (by rw [h.2.1.1]; exact nI_ge (by omega) (by omega)), fun _ => ⟨fun z => absurd rfl z, fun _ => ?_⟩⟩
      rw [cl (n := k) (by omega), g2, hC.1.2]
      refine ⟨vpn (by omega) (by omega), fun z => absurd z (hd2 k (Nat.le_refl k) hlt), fun _ => R_act hP ht hm hd h99 hac hy hC hF (fun τ f1 he hA => ?_)⟩
      have h1 := h.fx f1 (by simp) (by omega)
      have hC1 := hC.fx f1 (by omega) (fun k h1 h2 => by simp; omega)
      have hge : ∀ i, k ≤ i → i < A.2.1.1.length → d ≤ nI (ge A.2.1.1 i).2.1 := fun i q1 q2 => Int32.not_lt.mp (hd2 i q1 q2)
      refine R_ev h1 g hlt hC1.2.2.1 hC1.1.2 hA (fun τ2 f2 _ hA2 => ?_)
      rw [show stayY y d (ge A.2.1.1 k) = y from if_pos (hge k (Nat.le_refl k) hlt)] at hA2
      refine R_go2 (y := y) (d := d) rfl g (A.2.1.1.length - (k + 1)) (k + 1) τ2 _ (by omega) (fun i q1 q2 => hge i (by omega) q2) (h1.fx f2 (by simp) (by omega)) (by rw [f2.1 4027 (by simp)]; exact hC1.2.2.1) (by rw [f2.1 4026 (by simp)]; exact hC1.1.2) hA2 (fun τ3 f3 h3 => hq τ3 ?_ (fun _ => ⟨?_, ?_⟩) (fun _ z => absurd z (by omega)))
      · exact (m1 τ f1).tr ((f2.tr f3).mono (fun k hk => by simp at hk ⊢; exact Or.inl hk) (by omega) (by omega))
      · rw [f3.1 4029 (by simp), f2.1 4029 (by simp)]; exact he
      · refine h3.cg (fun t _ => ?_)
        show _ = goT A set th d m ac y w k t
        rw [goT, show A.2.1.1.length - k = (A.2.1.1.length - (k + 1)) + 1 by omega]
        rfl
    · obtain rfl : k = A.2.1.1.length := by omega
      have gz : ∀ t, goT A set th d m ac y w A.2.1.1.length t = stayS y w (if t = th then actN d ac m 0 (pre A set A.2.1.1.length th) else pre A set A.2.1.1.length t) := fun t => by rw [goT, Nat.sub_self]; rfl
      refine B_X6_go_95 ⟨fun _ => ⟨fun z => absurd rfl z, fun _ => ?_⟩, fun z => absurd (by rw [h.2.1.1]; exact nI_le (Nat.le_refl _) (by omega)) z⟩
      rw [hC.1.2]
      refine ⟨fun z => hq σ Fx.rf (fun w => absurd z (w.resolve_left hlt)) (fun _ _ => ⟨h22, hF⟩), fun z => R_act hP ht hm hd z hac hy hC hF (fun τ f1 he hA => hq τ (m1 τ f1) (fun _ => ⟨he, hA.cg (fun t _ => ?_)⟩) (fun z1 _ => absurd z1 z))⟩
      rw [gz]; exact cgo t
  | j + 1, k, σ, hj, h, hC, h22, hF, hq => by
    have hL := g.2.1.1
    have hP := g.1.1
    have g2 : gm σ 47 k = nI (ge A.2.1.1 k).2.1 := by
      have := (h.2.1.2.2 k (by omega)).2.1
      simpa only [Nat.mul_zero, Nat.zero_add] using this
    have hlt := hd1 k (by omega)
    refine B_X6_go_95 ⟨fun z => absurd z (by rw [h.2.1.1]; exact nI_ge (by omega) (by omega)), fun _ => ⟨fun z => absurd rfl z, fun _ => ?_⟩⟩
    rw [cl (n := k) (by omega), g2, hC.1.2]
    refine ⟨vpn (by omega) (by omega), fun _ => R_ev h g (by omega) hC.2.2.1 hC.1.2 hF (fun τ f1 he hA => ?_), fun z => absurd hlt z⟩
    refine R_go1 g ht hm hd hac hy hf hd1 hd2 j (k + 1) τ (by omega) (h.fx f1 (by simp) (by omega)) (hC.fx f1 (by omega) (fun k h1 h2 => by simp; omega)) (by rw [he, h22]; rfl) (hA.cg (fun t _ => ?_)) (fun υ f2 => hq υ ((f1.mono (fun k hk => by simp at hk ⊢; exact Or.inl hk) (by omega) (by omega)).tr f2))
    rw [pre_s, show stayY y d (ge A.2.1.1 k) = -9 from if_neg (fun z => absurd hlt (Int32.not_lt.mpr z))]
theorem R_go {E : EV} {Q : Sg → Prop} {σ : Sg} {A : Ab} {th m f : Nat} {d y w set : Int32} {ac : Nat → Bool × Nat} (h : RepM σ A) (g : Good A) (ht : th < 4) (hm : m ≤ 8) (hd : ¬ d = -9) (hac : ∀ i, i < m → (ac i).2 ≤ 8) (hy : okK A.1.length y) (hf : f ≤ A.2.1.1.length) (hd1 : ∀ i, i < f → nI (ge A.2.1.1 i).2.1 < d) (hd2 : ∀ i, f ≤ i → i < A.2.1.1.length → ¬ nI (ge A.2.1.1 i).2.1 < d) (hC : CfgM σ th d m ac y w) (hq : ∀ τ, Fx [4022, 4029] 51 55 σ τ → (f < A.2.1.1.length ∨ ¬ 99 < d → gi τ 4029 = hadB (pre A set f th).2.1 8 ∧ AllM τ A.1.length (goT A set th d m ac y w f)) → (99 < d → f = A.2.1.1.length → gi τ 4022 = emG A set f ∧ AllM τ A.1.length (pre A set f)) → Q τ) : MetV E mi_X6_go [.ref 40, .int set] σ Q := by
  have hP := g.1.1
  have l3 : ∀ (j k : Nat) (τ : Sg), k + j = 4 → Fx [4022, 4029] 51 55 σ τ → (∀ p, p < 8 → gm τ 51 p = gm τ 43 p) → (∀ i, i < 32 → gm τ 52 i = 0 ∧ gm τ 53 i = 0) → (∀ i, i < k → gm τ 54 i = -9 ∧ gm τ 55 i = -9) → K_X6_go_56 E Q τ set (nI k) := by
    intro j
    induction j with
    | zero =>
      intro k τ hk fx h1 h2 h3
      obtain rfl : k = 4 := by omega
      refine B_X6_go_56 ⟨fun _ => ?_, fun z => absurd (by decide) z⟩
      have fx2 : Fx [4022, 4029] 51 55 σ (si τ 4022 0) := fx.si (by simp)
      have hR := h.fx fx2 (by simp) (by omega)
      refine R_go1 g ht hm hd hac hy hf hd1 hd2 f 0 _ (by omega) hR (hC.fx fx2 (by omega) (fun k q1 q2 => by simp; omega)) (by rw [gi_si_s]; rfl) (fun t ht => ⟨fun p hp => ?_, fun p hp => (h2 (4 * p + t) (by omega)).1, fun p hp => (h2 (4 * p + t) (by omega)).2, Or.inl ⟨rfl, rfl, h3 t ht⟩⟩) (fun υ f2 => hq υ (fx2.tr f2))
      show gm τ 51 p = nI (gd A.1 p)
      rw [h1 p (by omega)]
      exact hR.1.2 p hp
    | succ j ih =>
      intro k τ hk fx h1 h2 h3
      refine B_X6_go_56 ⟨fun z => absurd z (nI_ge (a := k) (b := 4) (by omega) (by omega)), fun _ => ⟨vpn (by omega) (by omega), ?_⟩⟩
      rw [cl (n := k) (by omega), nI_1]
      refine ih (k + 1) _ (by omega) ((fx.sm (by omega) (by omega)).sm (by omega) (by omega)) h1 h2 (fun i hi => ?_)
      show upd (gm τ 54) _ _ i = _ ∧ upd (gm τ 55) _ _ i = _
      by_cases z : i = k
      · subst z; rw [upd_s, upd_s]; exact ⟨rfl, rfl⟩
      · rw [upd_n z, upd_n z]; exact h3 i (by omega)
  have l2 : ∀ (j k : Nat) (τ : Sg), k + j = 32 → Fx [4022, 4029] 51 55 σ τ → (∀ p, p < 8 → gm τ 51 p = gm τ 43 p) → (∀ i, i < k → gm τ 52 i = 0 ∧ gm τ 53 i = 0) → K_X6_go_28 E Q τ set (nI k) := by
    intro j
    induction j with
    | zero =>
      intro k τ hk fx h1 h2
      obtain rfl : k = 32 := by omega
      exact B_X6_go_28 ⟨fun _ => l3 4 0 τ (by omega) fx h1 h2 (fun i hi => absurd hi (by omega)), fun z => absurd (by decide) z⟩
    | succ j ih =>
      intro k τ hk fx h1 h2
      refine B_X6_go_28 ⟨fun z => absurd z (nI_ge (a := k) (b := 32) (by omega) (by omega)), fun _ => ⟨vpn (by omega) (by omega), ?_⟩⟩
      rw [cl (n := k) (by omega), nI_1]
      refine ih (k + 1) _ (by omega) ((fx.sm (by omega) (by omega)).sm (by omega) (by omega)) h1 (fun i hi => ?_)
      show upd (gm τ 52) _ _ i = _ ∧ upd (gm τ 53) _ _ i = _
      by_cases z : i = k
      · subst z; rw [upd_s, upd_s]; exact ⟨rfl, rfl⟩
      · rw [upd_n z, upd_n z]; exact h2 i (by omega)
  have l1 : ∀ (j k : Nat) (τ : Sg), k + j = 8 → Fx [4022, 4029] 51 55 σ τ → (∀ p, p < k → gm τ 51 p = gm τ 43 p) → K_X6_go_2 E Q τ set (nI k) := by
    intro j
    induction j with
    | zero =>
      intro k τ hk fx h1
      obtain rfl : k = 8 := by omega
      exact B_X6_go_2 ⟨fun _ => l2 32 0 τ (by omega) fx h1 (fun i hi => absurd hi (by omega)), fun z => absurd (by decide) z⟩
    | succ j ih =>
      intro k τ hk fx h1
      refine B_X6_go_2 ⟨fun z => absurd z (nI_ge (a := k) (b := 8) (by omega) (by omega)), fun _ => ⟨vpn (by omega) (by omega), vpn (by omega) (by omega), ?_⟩⟩
      rw [cl (n := k) (by omega), nI_1]
      refine ih (k + 1) _ (by omega) (fx.sm (by omega) (by omega)) (fun i hi => ?_)
      show upd (gm τ 51) _ _ i = gm τ 43 i
      by_cases z : i = k
      · subst z; rw [upd_s]
      · rw [upd_n z]; exact h1 i (by omega)
  exact M_X6_go (l1 8 0 σ (by omega) Fx.rf (fun i hi => absurd hi (by omega)))
