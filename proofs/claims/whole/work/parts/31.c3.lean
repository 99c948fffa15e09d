/-! ===== the class: a story's own acts ===== -/
def StC (σ : Sg) (o n t : Nat) (y : Int32) (S : SS) : Prop := (gi σ (100 * o + 3) = nI n ∧ gi σ (100 * o + 4) = nI t ∧ gi σ (100 * o + 5) = y) ∧ gm σ (o + 1) = S.1 ∧ gm σ (o + 2) = S.2.1 ∧ gm σ (o + 3) = S.2.2.1 ∧ gi σ (100 * o + 6) = S.2.2.2.1 ∧ gi σ (100 * o + 7) = S.2.2.2.2
theorem and_or_0 (x y z : Int32) : x &&& (y ||| z) = 0 ↔ x &&& y = 0 ∧ x &&& z = 0 := by
  have e : ∀ a : Int32, a = 0 ↔ ∀ i, i < 32 → a.toBitVec.getLsbD i = false := by
    intro a
    constructor
    · intro h i _; rw [h]; exact (by decide : ∀ i, i < 32 → (Int32.toBitVec 0).getLsbD i = false) i (by omega)
    · intro h
      apply Int32.toBitVec_inj.mp
      apply BitVec.eq_of_getLsbD_eq
      intro i hi
      rw [h i hi]
      exact ((by decide : ∀ i, i < 32 → (Int32.toBitVec 0).getLsbD i = false) i hi).symm
  rw [e, e, e]
  simp only [Int32.toBitVec_and, Int32.toBitVec_or, BitVec.getLsbD_and, BitVec.getLsbD_or]
  constructor
  · intro h
    exact ⟨fun i hi => by have := h i hi; revert this; cases x.toBitVec.getLsbD i <;> cases y.toBitVec.getLsbD i <;> cases z.toBitVec.getLsbD i <;> decide, fun i hi => by have := h i hi; revert this; cases x.toBitVec.getLsbD i <;> cases y.toBitVec.getLsbD i <;> cases z.toBitVec.getLsbD i <;> decide⟩
  · intro ⟨h1, h2⟩ i hi
    have a := h1 i hi
    have b := h2 i hi
    revert a b
    cases x.toBitVec.getLsbD i <;> cases y.toBitVec.getLsbD i <;> cases z.toBitVec.getLsbD i <;> decide
theorem and_cm (x y : Int32) : x &&& y = y &&& x := Int32.and_comm x y
theorem tri_mk {vo : Nat → Int32} {a b c : Nat} (ha : a < 8) (hb : b < 8) (hc : c < 8) : tri vo (64 * a + 8 * b + c) ↔ (a < b ∧ b < c) ∧ (¬ vo a = 0 ∧ ¬ vo b = 0 ∧ ¬ vo c = 0) ∧ vo a &&& vo b = 0 ∧ vo a &&& vo c = 0 ∧ vo b &&& vo c = 0 := by
  have e1 : tA (64 * a + 8 * b + c) = a := by rw [tA]; omega
  have e2 : tB (64 * a + 8 * b + c) = b := by rw [tB]; omega
  have e3 : tC (64 * a + 8 * b + c) = c := by rw [tC]; omega
  rw [tri, e1, e2, e3]
theorem tri_un {vo : Nat → Int32} {x : Nat} (h : tri vo x) (hx : x < 512) : ∃ a b c, x = 64 * a + 8 * b + c ∧ a < 8 ∧ b < 8 ∧ c < 8 ∧ a < b ∧ b < c ∧ ¬ vo a = 0 ∧ ¬ vo b = 0 ∧ ¬ vo c = 0 ∧ vo a &&& vo b = 0 ∧ vo a &&& vo c = 0 ∧ vo b &&& vo c = 0 := by
  refine ⟨tA x, tB x, tC x, by rw [tA, tB, tC]; omega, by rw [tA]; omega, by rw [tB]; omega, by rw [tC]; omega, h.1.1, h.1.2, h.2.1.1, h.2.1.2.1, h.2.1.2.2, h.2.2.1, h.2.2.2.1, h.2.2.2.2⟩
theorem mask_mk {a b c : Nat} (ha : a < 8) (hb : b < 8) (hc : c < 8) : mask3 (64 * a + 8 * b + c) = (one a ||| one b) ||| one c := by
  have e1 : tA (64 * a + 8 * b + c) = a := by rw [tA]; omega
  have e2 : tB (64 * a + 8 * b + c) = b := by rw [tB]; omega
  have e3 : tC (64 * a + 8 * b + c) = c := by rw [tC]; omega
  rw [mask3, e1, e2, e3]
theorem C_think_36 {E : EV} {Q : Sg → Prop} {σ : Sg} {n t p : Nat} {y : Int32} {S : SS} (h : StC σ 36 n t y S) (hp : p < 8) (hq : ∀ τ, Fr 36 39 σ τ → StC τ 36 n t y (think p S) → Q τ) : MetV E mi_X3_think [.ref 36, .int (nI p)] σ Q := by
  have e2 : gm σ 38 = S.2.1 := h.2.2.1
  refine M_X3_think_36 ⟨vpn hp (by omega), fun q => ?_, fun q => ?_⟩
  · rw [cl (by omega), e2] at q
    exact hq σ Fr.rf (by rw [think, if_neg q]; exact h)
  · rw [cl (by omega), e2] at q
    refine hq _ (Fr.sm Fr.rf (by omega) (by omega)) ?_
    rw [think, if_pos q]
    exact ⟨h.1, h.2.1, by show upd (gm σ 38) _ _ = upd S.2.1 p (one p); rw [e2, cl (by omega)]; rfl, h.2.2.2.1, h.2.2.2.2.1, h.2.2.2.2.2⟩
theorem C_third_36 {E : EV} {Q : Sg → Int32 → Prop} {σ : Sg} {n a : Nat} {w : Int32} {vo : Nat → Int32} (hn : gi σ 3603 = nI n) (hb : n ≤ 8) (hv : gm σ 39 = vo) (ha : a ≤ 9) (h0 : (∀ k, a ≤ k → k < n → ¬ (¬ vo k = 0 ∧ vo k &&& w = 0)) → Q σ 0) (h1 : ∀ k, a ≤ k → k < n → (¬ vo k = 0 ∧ vo k &&& w = 0) → (∀ j, a ≤ j → j < k → ¬ (¬ vo j = 0 ∧ vo j &&& w = 0)) → Q σ (one k)) : MetI E mi_X3_leastThird [.ref 36, .int (nI a), .int w] σ Q := by
  have go : ∀ (d k : Nat), k + d = n → a ≤ k → (∀ j, a ≤ j → j < k → ¬ (¬ vo j = 0 ∧ vo j &&& w = 0)) → K_X3_leastThird_36_2 E Q σ (nI a) w (nI k) := by
    intro d
    induction d with
    | zero =>
      intro k hk hak hl
      refine B_X3_leastThird_36_2 ⟨fun _ => h0 (fun j h1 h2 => hl j h1 (by omega)), fun q => absurd (by rw [hn]; exact nI_le (by omega) (by omega)) q⟩
    | succ d ih =>
      intro k hk hak hl
      refine B_X3_leastThird_36_2 ⟨fun q => absurd q (by rw [hn]; exact nI_ge (by omega) (by omega)), fun _ => ?_⟩
      rw [cl (by omega), hv, nI_1]
      have next : ¬ (¬ vo k = 0 ∧ vo k &&& w = 0) → K_X3_leastThird_36_2 E Q σ (nI a) w (nI (k + 1)) := fun z => ih (k + 1) (by omega) (by omega) (fun j j1 j2 => by
        rcases Nat.lt_or_ge j k with y | y
        · exact hl j j1 y
        · obtain rfl : j = k := by omega
          exact z)
      exact ⟨vpn (by omega) (by omega), fun q => next (fun z => z.1 q), fun q => ⟨fun q2 => next (fun z => q2 z.2), fun q2 => h1 k hak (by omega) ⟨q, q2⟩ hl⟩⟩
  refine M_X3_leastThird_36 ?_
  rcases Nat.lt_or_ge a n with q | q
  · exact go (n - a) a (by omega) (Nat.le_refl a) (fun j j1 j2 => by omega)
  · exact B_X3_leastThird_36_2 ⟨fun _ => h0 (fun j j1 j2 => by omega), fun q2 => absurd (by rw [hn]; exact nI_le q (by omega)) q2⟩
theorem C_least_36 {E : EV} {Q : Sg → Int32 → Prop} {σ : Sg} {n : Nat} {vo : Nat → Int32} (hn : gi σ 3603 = nI n) (hb : n ≤ 8) (hv : gm σ 39 = vo) (hz : ∀ p, n ≤ p → p < 8 → vo p = 0) (hq : Q σ (least vo)) : MetI E mi_X3_leastThree [.ref 36] σ Q := by
  have inner : ∀ (d i j : Nat), j + d = n → i < j → (∀ x, x < 64 * i + 8 * j → ¬ tri vo x) → ((∀ x, x < 64 * (i + 1) → ¬ tri vo x) → K_X3_leastThree_36_2 E Q σ (nI (i + 1))) → K_X3_leastThree_36_14 E Q σ (nI i) (nI j) := by
    intro d
    induction d with
    | zero =>
      intro i j hj hij hl hk
      refine B_X3_leastThree_36_14 ⟨fun _ => ?_, fun q => absurd (by rw [hn]; exact nI_le (by omega) (by omega)) q⟩
      rw [nI_1]
      refine hk (fun x hx ht => ?_)
      obtain ⟨a, b, c, rfl, ha, hb8, hc, h1, h2, h3, h4, h5, -⟩ := tri_un ht (by omega)
      rcases Nat.lt_or_ge (64 * a + 8 * b + c) (64 * i + 8 * j) with z | z
      · exact hl _ z ht
      · exact h4 (hz b (by omega) hb8)
    | succ d ih =>
      intro i j hj hij hl hk
      have hout : (∀ x, x < 64 * (i + 1) → ¬ tri vo x) → K_X3_leastThree_36_2 E Q σ (nI i + 1) := by rw [nI_1]; exact hk
      have next : (∀ c, c < 8 → ¬ tri vo (64 * i + 8 * j + c)) → K_X3_leastThree_36_14 E Q σ (nI i) (nI j + 1) := by
        intro hc
        rw [nI_1]
        refine ih i (j + 1) (by omega) (by omega) (fun x hx ht => ?_) hk
        rcases Nat.lt_or_ge x (64 * i + 8 * j) with z | z
        · exact hl _ z ht
        · exact hc (x - (64 * i + 8 * j)) (by omega) (by rw [show 64 * i + 8 * j + (x - (64 * i + 8 * j)) = x by omega]; exact ht)
      refine B_X3_leastThree_36_14 ⟨fun q => absurd q (by rw [hn]; exact nI_ge (by omega) (by omega)), fun _ => ?_⟩
      rw [cl (n := i) (by omega), cl (n := j) (by omega), hv]
      refine ⟨vpn (by omega) (by omega), fun q => hout (fun x hx ht => ?_), fun q => ⟨vpn (by omega) (by omega), fun q2 => next (fun c hc ht => ?_), fun q2 => ⟨fun q3 => next (fun c hc ht => ?_), fun q3 => ?_⟩⟩⟩
      · obtain ⟨a, b, c, rfl, ha, hb8, hc, h1, h2, h3, -⟩ := tri_un ht (by omega)
        rcases Nat.lt_or_ge (64 * a + 8 * b + c) (64 * i + 8 * j) with z | z
        · exact hl _ z ht
        · obtain rfl : a = i := by omega
          exact h3 q
      · exact ((tri_mk (by omega) (by omega) hc).mp ht).2.1.2.1 q2
      · exact q3 ((tri_mk (by omega) (by omega) hc).mp ht).2.2.1
      · rw [nI_1] at next ⊢
        refine C_third_36 hn hb hv (by omega) (fun hno => ⟨fun _ => next (fun c hc ht => ?_), fun q4 => absurd rfl q4⟩) (fun c hac hcn hP hmin => ⟨fun q4 => absurd q4 (one_n0 c (by omega)), fun _ => ?_⟩)
        · have h := (tri_mk (by omega) (by omega) hc).mp ht
          rcases Nat.lt_or_ge c n with z | z
          · exact hno c (by omega) z ⟨h.2.1.2.2, (and_or_0 _ _ _).mpr ⟨by rw [and_cm]; exact h.2.2.2.1, by rw [and_cm]; exact h.2.2.2.2⟩⟩
          · exact h.2.1.2.2 (hz c z hc)
        · have hA := (and_or_0 _ _ _).mp hP.2
          have ht : tri vo (64 * i + 8 * j + c) := (tri_mk (by omega) (by omega) (by omega)).mpr ⟨⟨hij, by omega⟩, ⟨q, q2, hP.1⟩, q3, by rw [and_cm]; exact hA.1, by rw [and_cm]; exact hA.2⟩
          have hL := least_some (by omega) ht (fun x hx hx2 => ?_)
          · rw [mask_mk (by omega) (by omega) (by omega)] at hL
            rw [hL] at hq
            exact hq
          · rcases Nat.lt_or_ge x (64 * i + 8 * j) with z | z
            · exact hl _ z hx2
            · have hx3 : tri vo (64 * i + 8 * j + (x - (64 * i + 8 * j))) := by rw [show 64 * i + 8 * j + (x - (64 * i + 8 * j)) = x by omega]; exact hx2
              have h := (tri_mk (by omega) (by omega) (by omega)).mp hx3
              exact hmin (x - (64 * i + 8 * j)) (by omega) (by omega) ⟨h.2.1.2.2, (and_or_0 _ _ _).mpr ⟨by rw [and_cm]; exact h.2.2.2.1, by rw [and_cm]; exact h.2.2.2.2⟩⟩
  have outer : ∀ (d i : Nat), i + d = n → (∀ x, x < 64 * i → ¬ tri vo x) → K_X3_leastThree_36_2 E Q σ (nI i) := by
    intro d
    induction d with
    | zero =>
      intro i hi hl
      refine B_X3_leastThree_36_2 ⟨fun _ => ?_, fun q => absurd (by rw [hn]; exact nI_le (by omega) (by omega)) q⟩
      rw [least_none (fun x hx ht => by
        obtain ⟨a, b, c, rfl, ha, hb8, hc, h1, h2, h3, -⟩ := tri_un ht hx
        rcases Nat.lt_or_ge (64 * a + 8 * b + c) (64 * i) with z | z
        · exact hl _ z ht
        · exact h3 (hz a (by omega) ha))] at hq
      exact hq
    | succ d ih =>
      intro i hi hl
      refine B_X3_leastThree_36_2 ⟨fun q => absurd q (by rw [hn]; exact nI_ge (by omega) (by omega)), fun _ => ?_⟩
      rw [nI_1]
      have hl2 : ∀ x, x < 64 * i + 8 * (i + 1) → ¬ tri vo x := by
        intro x hx ht
        rcases Nat.lt_or_ge x (64 * i) with z | z
        · exact hl x z ht
        · obtain ⟨a, b, c, rfl, ha, hb8, hc, h1, h2, h3, -⟩ := tri_un ht (by omega)
          omega
      rcases Nat.lt_or_ge (i + 1) n with z | z
      · exact inner (n - (i + 1)) i (i + 1) (by omega) (by omega) hl2 (fun h => ih (i + 1) (by omega) h)
      · refine inner 0 i (i + 1) (by omega) (by omega) hl2 (fun h => ih (i + 1) (by omega) h)
  exact M_X3_leastThree_36 (outer n 0 (by omega) (fun x hx => by omega))
theorem C_think_32 {E : EV} {Q : Sg → Prop} {σ : Sg} {n t p : Nat} {y : Int32} {S : SS} (h : StC σ 32 n t y S) (hp : p < 8) (hq : ∀ τ, Fr 32 35 σ τ → StC τ 32 n t y (think p S) → Q τ) : MetV E mi_X3_think [.ref 32, .int (nI p)] σ Q := by
  have e2 : gm σ 34 = S.2.1 := h.2.2.1
  refine M_X3_think_32 ⟨vpn hp (by omega), fun q => ?_, fun q => ?_⟩
  · rw [cl (by omega), e2] at q
    exact hq σ Fr.rf (by rw [think, if_neg q]; exact h)
  · rw [cl (by omega), e2] at q
    refine hq _ (Fr.sm Fr.rf (by omega) (by omega)) ?_
    rw [think, if_pos q]
    exact ⟨h.1, h.2.1, by show upd (gm σ 34) _ _ = upd S.2.1 p (one p); rw [e2, cl (by omega)]; rfl, h.2.2.2.1, h.2.2.2.2.1, h.2.2.2.2.2⟩
theorem C_third_32 {E : EV} {Q : Sg → Int32 → Prop} {σ : Sg} {n a : Nat} {w : Int32} {vo : Nat → Int32} (hn : gi σ 3203 = nI n) (hb : n ≤ 8) (hv : gm σ 35 = vo) (ha : a ≤ 9) (h0 : (∀ k, a ≤ k → k < n → ¬ (¬ vo k = 0 ∧ vo k &&& w = 0)) → Q σ 0) (h1 : ∀ k, a ≤ k → k < n → (¬ vo k = 0 ∧ vo k &&& w = 0) → (∀ j, a ≤ j → j < k → ¬ (¬ vo j = 0 ∧ vo j &&& w = 0)) → Q σ (one k)) : MetI E mi_X3_leastThird [.ref 32, .int (nI a), .int w] σ Q := by
  have go : ∀ (d k : Nat), k + d = n → a ≤ k → (∀ j, a ≤ j → j < k → ¬ (¬ vo j = 0 ∧ vo j &&& w = 0)) → K_X3_leastThird_32_2 E Q σ (nI a) w (nI k) := by
    intro d
    induction d with
    | zero =>
      intro k hk hak hl
      refine B_X3_leastThird_32_2 ⟨fun _ => h0 (fun j h1 h2 => hl j h1 (by omega)), fun q => absurd (by rw [hn]; exact nI_le (by omega) (by omega)) q⟩
    | succ d ih =>
      intro k hk hak hl
      refine B_X3_leastThird_32_2 ⟨fun q => absurd q (by rw [hn]; exact nI_ge (by omega) (by omega)), fun _ => ?_⟩
      rw [cl (by omega), hv, nI_1]
      have next : ¬ (¬ vo k = 0 ∧ vo k &&& w = 0) → K_X3_leastThird_32_2 E Q σ (nI a) w (nI (k + 1)) := fun z => ih (k + 1) (by omega) (by omega) (fun j j1 j2 => by
        rcases Nat.lt_or_ge j k with y | y
        · exact hl j j1 y
        · obtain rfl : j = k := by omega
          exact z)
      exact ⟨vpn (by omega) (by omega), fun q => next (fun z => z.1 q), fun q => ⟨fun q2 => next (fun z => q2 z.2), fun q2 => h1 k hak (by omega) ⟨q, q2⟩ hl⟩⟩
  refine M_X3_leastThird_32 ?_
  rcases Nat.lt_or_ge a n with q | q
  · exact go (n - a) a (by omega) (Nat.le_refl a) (fun j j1 j2 => by omega)
  · exact B_X3_leastThird_32_2 ⟨fun _ => h0 (fun j j1 j2 => by omega), fun q2 => absurd (by rw [hn]; exact nI_le q (by omega)) q2⟩
theorem C_least_32 {E : EV} {Q : Sg → Int32 → Prop} {σ : Sg} {n : Nat} {vo : Nat → Int32} (hn : gi σ 3203 = nI n) (hb : n ≤ 8) (hv : gm σ 35 = vo) (hz : ∀ p, n ≤ p → p < 8 → vo p = 0) (hq : Q σ (least vo)) : MetI E mi_X3_leastThree [.ref 32] σ Q := by
  have inner : ∀ (d i j : Nat), j + d = n → i < j → (∀ x, x < 64 * i + 8 * j → ¬ tri vo x) → ((∀ x, x < 64 * (i + 1) → ¬ tri vo x) → K_X3_leastThree_32_2 E Q σ (nI (i + 1))) → K_X3_leastThree_32_14 E Q σ (nI i) (nI j) := by
    intro d
    induction d with
    | zero =>
      intro i j hj hij hl hk
      refine B_X3_leastThree_32_14 ⟨fun _ => ?_, fun q => absurd (by rw [hn]; exact nI_le (by omega) (by omega)) q⟩
      rw [nI_1]
      refine hk (fun x hx ht => ?_)
      obtain ⟨a, b, c, rfl, ha, hb8, hc, h1, h2, h3, h4, h5, -⟩ := tri_un ht (by omega)
      rcases Nat.lt_or_ge (64 * a + 8 * b + c) (64 * i + 8 * j) with z | z
      · exact hl _ z ht
      · exact h4 (hz b (by omega) hb8)
    | succ d ih =>
      intro i j hj hij hl hk
      have hout : (∀ x, x < 64 * (i + 1) → ¬ tri vo x) → K_X3_leastThree_32_2 E Q σ (nI i + 1) := by rw [nI_1]; exact hk
      have next : (∀ c, c < 8 → ¬ tri vo (64 * i + 8 * j + c)) → K_X3_leastThree_32_14 E Q σ (nI i) (nI j + 1) := by
        intro hc
        rw [nI_1]
        refine ih i (j + 1) (by omega) (by omega) (fun x hx ht => ?_) hk
        rcases Nat.lt_or_ge x (64 * i + 8 * j) with z | z
        · exact hl _ z ht
        · exact hc (x - (64 * i + 8 * j)) (by omega) (by rw [show 64 * i + 8 * j + (x - (64 * i + 8 * j)) = x by omega]; exact ht)
      refine B_X3_leastThree_32_14 ⟨fun q => absurd q (by rw [hn]; exact nI_ge (by omega) (by omega)), fun _ => ?_⟩
      rw [cl (n := i) (by omega), cl (n := j) (by omega), hv]
      refine ⟨vpn (by omega) (by omega), fun q => hout (fun x hx ht => ?_), fun q => ⟨vpn (by omega) (by omega), fun q2 => next (fun c hc ht => ?_), fun q2 => ⟨fun q3 => next (fun c hc ht => ?_), fun q3 => ?_⟩⟩⟩
      · obtain ⟨a, b, c, rfl, ha, hb8, hc, h1, h2, h3, -⟩ := tri_un ht (by omega)
        rcases Nat.lt_or_ge (64 * a + 8 * b + c) (64 * i + 8 * j) with z | z
        · exact hl _ z ht
        · obtain rfl : a = i := by omega
          exact h3 q
      · exact ((tri_mk (by omega) (by omega) hc).mp ht).2.1.2.1 q2
      · exact q3 ((tri_mk (by omega) (by omega) hc).mp ht).2.2.1
      · rw [nI_1] at next ⊢
        refine C_third_32 hn hb hv (by omega) (fun hno => ⟨fun _ => next (fun c hc ht => ?_), fun q4 => absurd rfl q4⟩) (fun c hac hcn hP hmin => ⟨fun q4 => absurd q4 (one_n0 c (by omega)), fun _ => ?_⟩)
        · have h := (tri_mk (by omega) (by omega) hc).mp ht
          rcases Nat.lt_or_ge c n with z | z
          · exact hno c (by omega) z ⟨h.2.1.2.2, (and_or_0 _ _ _).mpr ⟨by rw [and_cm]; exact h.2.2.2.1, by rw [and_cm]; exact h.2.2.2.2⟩⟩
          · exact h.2.1.2.2 (hz c z hc)
        · have hA := (and_or_0 _ _ _).mp hP.2
          have ht : tri vo (64 * i + 8 * j + c) := (tri_mk (by omega) (by omega) (by omega)).mpr ⟨⟨hij, by omega⟩, ⟨q, q2, hP.1⟩, q3, by rw [and_cm]; exact hA.1, by rw [and_cm]; exact hA.2⟩
          have hL := least_some (by omega) ht (fun x hx hx2 => ?_)
          · rw [mask_mk (by omega) (by omega) (by omega)] at hL
            rw [hL] at hq
            exact hq
          · rcases Nat.lt_or_ge x (64 * i + 8 * j) with z | z
            · exact hl _ z hx2
            · have hx3 : tri vo (64 * i + 8 * j + (x - (64 * i + 8 * j))) := by rw [show 64 * i + 8 * j + (x - (64 * i + 8 * j)) = x by omega]; exact hx2
              have h := (tri_mk (by omega) (by omega) (by omega)).mp hx3
              exact hmin (x - (64 * i + 8 * j)) (by omega) (by omega) ⟨h.2.1.2.2, (and_or_0 _ _ _).mpr ⟨by rw [and_cm]; exact h.2.2.2.1, by rw [and_cm]; exact h.2.2.2.2⟩⟩
  have outer : ∀ (d i : Nat), i + d = n → (∀ x, x < 64 * i → ¬ tri vo x) → K_X3_leastThree_32_2 E Q σ (nI i) := by
    intro d
    induction d with
    | zero =>
      intro i hi hl
      refine B_X3_leastThree_32_2 ⟨fun _ => ?_, fun q => absurd (by rw [hn]; exact nI_le (by omega) (by omega)) q⟩
      rw [least_none (fun x hx ht => by
        obtain ⟨a, b, c, rfl, ha, hb8, hc, h1, h2, h3, -⟩ := tri_un ht hx
        rcases Nat.lt_or_ge (64 * a + 8 * b + c) (64 * i) with z | z
        · exact hl _ z ht
        · exact h3 (hz a (by omega) ha))] at hq
      exact hq
    | succ d ih =>
      intro i hi hl
      refine B_X3_leastThree_32_2 ⟨fun q => absurd q (by rw [hn]; exact nI_ge (by omega) (by omega)), fun _ => ?_⟩
      rw [nI_1]
      have hl2 : ∀ x, x < 64 * i + 8 * (i + 1) → ¬ tri vo x := by
        intro x hx ht
        rcases Nat.lt_or_ge x (64 * i) with z | z
        · exact hl x z ht
        · obtain ⟨a, b, c, rfl, ha, hb8, hc, h1, h2, h3, -⟩ := tri_un ht (by omega)
          omega
      rcases Nat.lt_or_ge (i + 1) n with z | z
      · exact inner (n - (i + 1)) i (i + 1) (by omega) (by omega) hl2 (fun h => ih (i + 1) (by omega) h)
      · refine inner 0 i (i + 1) (by omega) (by omega) hl2 (fun h => ih (i + 1) (by omega) h)
  exact M_X3_leastThree_32 (outer n 0 (by omega) (fun x hx => by omega))
