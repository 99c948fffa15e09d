/-! ===== fractions ===== -/
theorem ln_inj {a b : Nat} (ha : a < 2 ^ 63) (hb : b < 2 ^ 63) (h : lN a = lN b) : a = b := by
  have : (lN a).toInt = (lN b).toInt := by rw [h]
  rw [pk_lT ha, pk_lT hb] at this
  omega
theorem ln_div {a d : Nat} (ha : a < 2 ^ 63) (h0 : 0 < d) (hd : d < 2 ^ 63) : lN a / lN d = lN (a / d) := by
  apply Int64.toInt_inj.mp
  rw [lg_ldiv_nonneg (by rw [pk_lT ha]; omega) (by rw [pk_lT hd]; omega), pk_lT ha, pk_lT hd, pk_lT (Nat.lt_of_le_of_lt (Nat.div_le_self a d) ha)]
  first | rfl | exact (Int.natCast_ediv _ _).symm
theorem ln_rem {a d : Nat} (ha : a < 2 ^ 63) (h0 : 0 < d) (hd : d < 2 ^ 63) : lN a - lN a / lN d * lN d = lN (a % d) := by
  rw [ln_div ha h0 hd, lN_mul, lN_sub (Nat.div_mul_le_self a d)]
  exact congrArg lN (by have := Nat.div_add_mod' a d; omega)
theorem ln_0 {a : Nat} (ha : a < 2 ^ 63) : lN a = 0 ↔ a = 0 := ⟨fun h => ln_inj ha (by omega) h, fun h => by rw [h]; rfl⟩
theorem gcd_step {a b : Nat} : Nat.gcd b (a % b) = Nat.gcd a b := by
  rw [Nat.gcd_comm b, ← Nat.gcd_rec b a, Nat.gcd_comm]
theorem R_common {E : EV} {Q : Sg → Int64 → Prop} {σ : Sg} {a b : Nat} (ha : a < 2 ^ 62) (hb : b < 2 ^ 62) (hq : Q σ (lN (Nat.gcd a b))) : MetL E mi_X6_common [.long (lN a), .long (lN b)] σ Q := by
  have go : ∀ (j x y : Nat), y ≤ j → x < 2 ^ 62 → y < 2 ^ 62 → Nat.gcd x y = Nat.gcd a b → K_X6_common_6 E Q σ (lN a) (lN b) (lN x) (lN y) := by
    intro j
    induction j with
    | zero =>
      intro x y hy hx hy2 hg
      obtain rfl : y = 0 := by omega
      rw [Nat.gcd_zero_right] at hg
      refine B_X6_common_6 ⟨fun _ => by rw [hg]; exact hq, fun z => absurd (by rw [lg_cmp_eq]; rfl) z⟩
    | succ j ih =>
      intro x y hy hx hy2 hg
      refine B_X6_common_6 ⟨fun z => ?_, fun z => ?_⟩
      · rw [lg_cmp_eq] at z
        have z : y = 0 := (ln_0 (by omega)).mp z
        subst z
        rw [Nat.gcd_zero_right] at hg
        rw [hg]; exact hq
      · rw [lg_cmp_eq] at z
        have z : y ≠ 0 := fun w => z (by rw [w]; rfl)
        refine ⟨fun w => z ((ln_0 (by omega)).mp w), ?_⟩
        rw [ln_rem (by omega) (by omega) (by omega)]
        have := Nat.mod_lt x (show 0 < y by omega)
        exact ih y (x % y) (by omega) hy2 (by omega) (by rw [gcd_step]; exact hg)
  exact M_X6_common (go b a b (Nat.le_refl b) ha hb rfl)
/-- two steps leave less than half -/
theorem gcd_half {y r : Nat} (h : r < y) (h0 : 0 < r) : 2 * (y % r) < y := by
  have h1 := Nat.mod_lt y h0
  have h2 := Nat.div_add_mod y r
  have h3 : 1 ≤ y / r := (Nat.le_div_iff_mul_le h0).mpr (by omega)
  have h4 : r ≤ r * (y / r) := Nat.le_mul_of_pos_right r h3
  omega
theorem C_common {E : EV} {Q : Sg → Int64 → Prop} {σ : Sg} {a b : Nat} (ha : a < 2 ^ 62) (hb : b < 2 ^ 26) (hq : Q σ (lN (Nat.gcd a b))) : MetL E mi_X5_commonDivisor [.long (lN a), .long (lN b)] σ Q := by
  have z100 : (100 : Int32) = nI 100 := rfl
  have lez : ∀ y, y < 2 ^ 62 → (lg_cmp (lN y) 0 ≤ 0 ↔ y = 0) := by
    intro y hy
    rw [lg_cmp_le, Int64.le_iff_toInt_le, pk_lT (by omega), show (0 : Int64).toInt = 0 from by decide]
    omega
  have one : ∀ (x y s : Nat) (C : Prop), s < 100 → x < 2 ^ 62 → y < 2 ^ 62 → Nat.gcd x y = Nat.gcd a b → (¬ y = 0 → K_X5_commonDivisor_9 E Q σ (lN a) (lN b) (lN y) (lN (x % y)) (nI (s + 1))) → K_X5_commonDivisor_9 E Q σ (lN a) (lN b) (lN x) (lN y) (nI s) := by
    intro x y s C hs hx hy hg hk
    refine B_X5_commonDivisor_9 ⟨fun z => absurd z (by rw [z100]; exact nI_ge (by omega) (by omega)), fun _ => ⟨fun z => ?_, fun z => ?_⟩⟩
    all_goals rw [lez y hy] at z
    · subst z
      rw [Nat.gcd_zero_right] at hg
      rw [hg]; exact hq
    · refine ⟨fun w => z ((ln_0 (by omega)).mp w), ?_⟩
      rw [ln_rem (by omega) (by omega) (by omega), nI_1]
      exact hk z
  have go : ∀ (m x y s : Nat), y < 2 ^ m → m ≤ 26 → s + 2 * m + 1 ≤ 100 → x < 2 ^ 62 → Nat.gcd x y = Nat.gcd a b → K_X5_commonDivisor_9 E Q σ (lN a) (lN b) (lN x) (lN y) (nI s) := by
    intro m
    induction m with
    | zero =>
      intro x y s hy hm hs hx hg
      have hy0 : y = 0 := by rw [Nat.pow_zero] at hy; omega
      exact one x y s True (by omega) hx (by omega) hg (fun z => absurd hy0 z)
    | succ m ih =>
      intro x y s hy hm hs hx hg
      have hym : y < 2 ^ 26 := Nat.lt_of_lt_of_le hy (Nat.pow_le_pow_right (by omega) hm)
      refine one x y s True (by omega) hx (by omega) hg (fun z => ?_)
      have h1 := Nat.mod_lt x (show 0 < y by omega)
      refine one y (x % y) (s + 1) True (by omega) (by omega) (by omega) (by rw [gcd_step]; exact hg) (fun z2 => ?_)
      have h2 := gcd_half h1 (show 0 < x % y by omega)
      rw [Nat.pow_succ] at hy
      exact ih (x % y) (y % (x % y)) (s + 1 + 1) (by omega) (by omega) (by omega) (by omega) (by rw [gcd_step, gcd_step]; exact hg)
  exact M_X5_commonDivisor (go 26 a b 0 hb (Nat.le_refl _) (by omega) ha rfl)
theorem C_power {E : EV} {Q : Sg → Int64 → Prop} {σ : Sg} {a r : Nat} (ha : a < 2 ^ 31) (hr : r < 2 ^ 31) (hq : Q σ (lN (a ^ r))) : MetL E mi_X5_power [.int (nI a), .int (nI r)] σ Q := by
  have go : ∀ (j k : Nat), k + j = r → K_X5_power_5 E Q σ (nI a) (nI r) (lN (a ^ k)) (nI k) := by
    intro j
    induction j with
    | zero =>
      intro k hk
      obtain rfl : k = r := by omega
      exact B_X5_power_5 ⟨fun _ => hq, fun z => absurd (nI_le (Nat.le_refl _) hr) z⟩
    | succ j ih =>
      intro k hk
      refine B_X5_power_5 ⟨fun z => absurd z (nI_ge (by omega) hr), fun _ => ?_⟩
      rw [nI_l ha, lN_mul, ← Nat.pow_succ, nI_1]
      exact ih (k + 1) (by omega)
  exact M_X5_power (go r 0 (by omega))
/-! ===== those without it ===== -/
/-- of the first k those that have it, and those that haven't -/
def hasN (f : Nat → Int32) : Nat → Nat
  | 0 => 0
  | k + 1 => if f k = 0 then hasN f k else hasN f k ||| 2 ^ k
def woN (f : Nat → Int32) : Nat → Nat
  | 0 => 0
  | k + 1 => if f k = 0 then woN f k ||| 2 ^ k else woN f k
theorem hasN_lt {f : Nat → Int32} : ∀ k, hasN f k < 2 ^ k
  | 0 => Nat.zero_lt_one
  | k + 1 => by
    have h1 := @hasN_lt f k
    have h2 : 2 ^ k < 2 ^ (k + 1) := Nat.pow_lt_pow_right (by omega) (by omega)
    rw [hasN]
    split
    · omega
    · exact Nat.or_lt_two_pow (by omega) h2
theorem woN_lt {f : Nat → Int32} : ∀ k, woN f k < 2 ^ k
  | 0 => Nat.zero_lt_one
  | k + 1 => by
    have h1 := @woN_lt f k
    have h2 : 2 ^ k < 2 ^ (k + 1) := Nat.pow_lt_pow_right (by omega) (by omega)
    rw [woN]
    split
    · exact Nat.or_lt_two_pow (by omega) h2
    · omega
theorem hasN_bit {f : Nat → Int32} : ∀ k i, (hasN f k).testBit i = (decide (i < k) && !decide (f i = 0))
  | 0, i => by rw [hasN, Nat.zero_testBit]; rfl
  | k + 1, i => by
    have ih := @hasN_bit f k i
    rw [hasN]
    split
    · rename_i h
      rw [ih]
      by_cases e : i = k
      · subst e; rw [decide_eq_true h]; simp
      · rw [decide_eq_decide.mpr (show i < k ↔ i < k + 1 by omega)]
    · rename_i h
      rw [Nat.testBit_or, ih, Nat.testBit_two_pow]
      by_cases e : i = k
      · subst e; rw [decide_eq_false h]; simp
      · rw [decide_eq_decide.mpr (show i < k ↔ i < k + 1 by omega), decide_eq_false (show ¬ k = i by omega), Bool.or_false]
theorem woN_bit {f : Nat → Int32} : ∀ k i, (woN f k).testBit i = (decide (i < k) && decide (f i = 0))
  | 0, i => by rw [woN, Nat.zero_testBit]; rfl
  | k + 1, i => by
    have ih := @woN_bit f k i
    rw [woN]
    split
    · rename_i h
      rw [Nat.testBit_or, ih, Nat.testBit_two_pow]
      by_cases e : i = k
      · subst e; rw [decide_eq_true h]; simp
      · rw [decide_eq_decide.mpr (show i < k ↔ i < k + 1 by omega), decide_eq_false (show ¬ k = i by omega), Bool.or_false]
    · rename_i h
      rw [ih]
      by_cases e : i = k
      · subst e; rw [decide_eq_false h]; simp
      · rw [decide_eq_decide.mpr (show i < k ↔ i < k + 1 by omega)]
theorem hadB_N {f : Nat → Int32} : ∀ k, k ≤ 8 → hadB f k = nI (hasN f k)
  | 0, _ => rfl
  | k + 1, h => by
    rw [hadB, hasN, hadB_N k (by omega), one_nI k (by omega), or_nI]
    split <;> rfl
theorem lsb_nI {x i : Nat} (hi : i < 32) : (nI x).toBitVec.getLsbD i = x.testBit i := by
  show (BitVec.ofNat 32 x).getLsbD i = _
  rw [BitVec.getLsbD_ofNat, decide_eq_true hi, Bool.true_and]
theorem lsb_m1 : ∀ i, i < 32 → (Int32.toBitVec (-1)).getLsbD i = true := by decide
theorem wo_mask {f : Nat → Int32} {n : Nat} (hn : n ≤ 8) : ((hadB f 8) ^^^ (-1 : Int32)) &&& (nI (2 ^ n) - 1) = nI (woN f n) := by
  have hp : (1 : Nat) ≤ 2 ^ n := Nat.one_le_two_pow
  rw [hadB_N 8 (Nat.le_refl 8), show nI (2 ^ n) - 1 = nI (2 ^ n - 1) from by rw [show (1 : Int32) = nI 1 from rfl, pk_sub hp]]
  refine Int32.toBitVec_inj.mp (BitVec.eq_of_getLsbD_eq (fun i hi => ?_))
  rw [Int32.toBitVec_and, Int32.toBitVec_xor, BitVec.getLsbD_and, BitVec.getLsbD_xor, lsb_nI hi, lsb_nI hi, lsb_nI hi, lsb_m1 i hi, hasN_bit, woN_bit, Nat.testBit_two_pow_sub_one]
  by_cases h : i < n
  · rw [decide_eq_true h, decide_eq_true (show i < 8 by omega)]
    cases decide (f i = 0) <;> rfl
  · rw [decide_eq_false h, Bool.and_false, Bool.false_and]
theorem C_without {E : EV} {Q : Sg → Int32 → Prop} {σ : Sg} {n t : Nat} {y : Int32} {S : SS} {f : Nat → Int32} (hn : n ≤ 8) (h : StC σ 32 n t y S) (hf : ∀ p, p < 8 → S.2.1 p = f p) (hq : Q σ (nI (woN f n))) : MetI E mi_X3_thoseWithout [.ref 32] σ Q := by
  have e1 : gi σ 3203 = nI n := h.1.1
  have e2 : gm σ 34 = S.2.1 := h.2.2.1
  have go : ∀ (j k : Nat), k + j = n → K_X3_thoseWithout_32_4 E Q σ (nI (woN f k)) (nI k) := by
    intro j
    induction j with
    | zero =>
      intro k hk
      obtain rfl : k = n := by omega
      exact B_X3_thoseWithout_32_4 ⟨fun _ => hq, fun z => absurd (by rw [e1]; exact nI_le (Nat.le_refl _) (by omega)) z⟩
    | succ j ih =>
      intro k hk
      have hh := ih (k + 1) (by omega)
      rw [woN] at hh
      refine B_X3_thoseWithout_32_4 ⟨fun z => absurd z (by rw [e1]; exact nI_ge (by omega) (by omega)), fun _ => ?_⟩
      rw [cl (by omega), e2, hf k (by omega), nI_1]
      refine ⟨vpn (by omega) (by omega), fun z => ?_, fun z => ?_⟩
      · rw [if_neg z] at hh; exact hh
      · rw [if_pos z] at hh
        rw [show (1 : Int32) <<< (nI k &&& 31) = nI (2 ^ k) from one_nI k (by omega), or_nI]; exact hh
  exact M_X3_thoseWithout_32 (go n 0 (by omega))
/-! subsets -/
theorem sub_iff {s w : Nat} (hs : s < 256) (hw : w < 256) : nI s &&& (nI w ^^^ (-1 : Int32)) = 0 ↔ s &&& w = s := by
  have hsb : ∀ i, 8 ≤ i → s.testBit i = false := fun i hi => by
    have h8 : 2 ^ 8 ≤ 2 ^ i := Nat.pow_le_pow_right (by omega) hi
    exact Nat.testBit_lt_two_pow (Nat.lt_of_lt_of_le hs h8)
  have e : ∀ i, i < 32 → (nI s &&& (nI w ^^^ (-1 : Int32))).toBitVec.getLsbD i = (s.testBit i && !w.testBit i) := by
    intro i hi
    rw [Int32.toBitVec_and, Int32.toBitVec_xor, BitVec.getLsbD_and, BitVec.getLsbD_xor, lsb_nI hi, lsb_nI hi, lsb_m1 i hi, Bool.xor_true]
  constructor
  · intro h
    apply Nat.eq_of_testBit_eq
    intro i
    rw [Nat.testBit_and]
    rcases Nat.lt_or_ge i 8 with z | z
    · have h1 := e i (by omega)
      rw [h, (by decide : ∀ i, i < 32 → (Int32.toBitVec 0).getLsbD i = false) i (by omega)] at h1
      revert h1
      cases s.testBit i <;> cases w.testBit i <;> decide
    · rw [hsb i z]; rfl
  · intro h
    refine Int32.toBitVec_inj.mp (BitVec.eq_of_getLsbD_eq (fun i hi => ?_))
    rw [e i hi, (by decide : ∀ i, i < 32 → (Int32.toBitVec 0).getLsbD i = false) i hi]
    have h1 : (s &&& w).testBit i = s.testBit i := by rw [h]
    rw [Nat.testBit_and] at h1
    revert h1
    cases s.testBit i <;> cases w.testBit i <;> decide
theorem sub_le {s w : Nat} (h : s &&& w = s) : s ≤ w := by
  have := @Nat.and_le_right s w
  omega
theorem sub_xor {s w : Nat} (h : s &&& w = s) : nI w &&& (nI s ^^^ (-1 : Int32)) = nI (w ^^^ s) := by
  refine Int32.toBitVec_inj.mp (BitVec.eq_of_getLsbD_eq (fun i hi => ?_))
  rw [Int32.toBitVec_and, Int32.toBitVec_xor, BitVec.getLsbD_and, BitVec.getLsbD_xor, lsb_nI hi, lsb_nI hi, lsb_nI hi, lsb_m1 i hi, Bool.xor_true, Nat.testBit_xor]
  have h1 : (s &&& w).testBit i = s.testBit i := by rw [h]
  rw [Nat.testBit_and] at h1
  revert h1
  cases s.testBit i <;> cases w.testBit i <;> decide
/-- the product over the first k of w: a for those of s, c for the others -/
def prN (a c w s : Nat) : Nat → Nat
  | 0 => 1
  | k + 1 => prN a c w s k * (if w / 2 ^ k % 2 = 1 then (if s / 2 ^ k % 2 = 1 then a else c) else 1)
theorem bit_mod (x i : Nat) : x / 2 ^ i % 2 = if x.testBit i = true then 1 else 0 := by
  rw [Nat.testBit_eq_decide_div_mod_eq]
  by_cases h : x / 2 ^ i % 2 = 1
  · rw [if_pos (decide_eq_true h), h]
  · rw [if_neg (fun z => h (of_decide_eq_true z))]; omega
theorem prN_pow {a c w s : Nat} (h : s &&& w = s) : ∀ k, prN a c w s k = a ^ bsum s k * c ^ bsum (w ^^^ s) k
  | 0 => rfl
  | k + 1 => by
    have h1 : (s &&& w).testBit k = s.testBit k := by rw [h]
    rw [Nat.testBit_and] at h1
    rw [prN, bsum, bsum, prN_pow h k, bit_mod w, bit_mod s, bit_mod (w ^^^ s), Nat.testBit_xor]
    revert h1
    cases s.testBit k <;> cases w.testBit k <;> intro h1 <;> simp at h1 ⊢
    · rw [Nat.pow_succ, Nat.mul_assoc]
    · rw [Nat.pow_succ, Nat.mul_assoc, Nat.mul_comm (c ^ _) a, ← Nat.mul_assoc]
