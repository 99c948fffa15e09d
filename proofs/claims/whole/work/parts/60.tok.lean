/-! ===== TOKENS of a text ===== -/
/-- the first place from p on that isn't so, or behind f more -/
def skF (c : Nat → Bool) : Nat → Nat → Nat
  | 0, p => p
  | f + 1, p => if c p = true then skF c f (p + 1) else p
theorem skF_le {c : Nat → Bool} : ∀ f p, p ≤ skF c f p ∧ skF c f p ≤ p + f
  | 0, p => ⟨Nat.le_refl p, Nat.le_refl p⟩
  | f + 1, p => by
    rw [skF]
    split
    · have := @skF_le c f (p + 1); omega
    · omega
theorem skF_all {c : Nat → Bool} : ∀ f p i, p ≤ i → i < skF c f p → c i = true
  | 0, p, i, h1, h2 => absurd h2 (by rw [skF]; omega)
  | f + 1, p, i, h1, h2 => by
    rw [skF] at h2
    split at h2
    · rename_i h
      rcases (show i = p ∨ p + 1 ≤ i by omega) with z | z
      · rw [z]; exact h
      · exact skF_all f (p + 1) i z h2
    · omega
def isB (X : List Nat) (p : Nat) : Bool := decide (gd X p = 32)
def isL (X : List Nat) (p : Nat) : Bool := decide (97 ≤ gd X p ∧ gd X p ≤ 122)
def isD (X : List Nat) (p : Nat) : Bool := decide (48 ≤ gd X p ∧ gd X p ≤ 57)
/-- a number as far as its digits have been read, 100 for all above -/
def dv (X : List Nat) : Nat → Nat → Nat → Nat
  | 0, _, v => v
  | f + 1, p, v => if isD X p = true then dv X f (p + 1) (min (10 * v + (gd X p - 48)) 100) else v
/-- a word as a number -/
def cd (X : List Nat) (s : Nat) : Nat → Nat
  | 0 => 0
  | k + 1 => 27 * cd X s k + (gd X (s + k) - 96)
def mean (c : Nat) : Nat := if c = 13903 then 3 else if c = 267413 then 4 else if c = 394724 then 0 else if c = 6946700 then 1 else if c = 10793234 then 2 else if c = 232608281 then 5 else 9
def cdW (X : List Nat) (s e : Nat) : Nat := if e - s ≤ 6 then cd X s (e - s) else 0
/-- 0 .. 4 an event's word, 5 person, 6 the end, 7 a number, 8 ';', 9 wrong; start, end, number -/
def tokAt (X : List Nat) (s : Nat) : Nat × Nat × Nat × Nat :=
  if X.length ≤ s then (6, s, s, 0)
  else if isL X s = true then (mean (cdW X s (skF (isL X) (X.length - s) s)), s, skF (isL X) (X.length - s) s, 0)
  else if isD X s = true then (if dv X (X.length - s) s 0 ≤ 99 ∧ ¬ (gd X s = 48 ∧ 1 < skF (isD X) (X.length - s) s - s) then 7 else 9, s, skF (isD X) (X.length - s) s, dv X (X.length - s) s 0)
  else if gd X s = 59 then (8, s, s + 1, 0) else (9, s, s + 1, 0)
def tok (X : List Nat) (p : Nat) : Nat × Nat × Nat × Nat := tokAt X (skF (isB X) (X.length - p) p)
theorem tok_start {X : List Nat} {p : Nat} : (tok X p).2.1 = skF (isB X) (X.length - p) p := by
  rw [tok, tokAt]
  split
  · rfl
  · split
    · rfl
    · split
      · rfl
      · split <;> rfl
theorem tok_le {X : List Nat} {p : Nat} (hp : p ≤ X.length) : p ≤ (tok X p).2.1 ∧ (tok X p).2.1 ≤ X.length ∧ (tok X p).2.1 ≤ (tok X p).2.2.1 ∧ (tok X p).2.2.1 ≤ X.length := by
  have h := @skF_le (isB X) (X.length - p) p
  rw [tok_start]
  refine ⟨h.1, by omega, ?_⟩
  rw [tok]
  generalize skF (isB X) (X.length - p) p = s at h
  rw [tokAt]
  split
  · exact ⟨Nat.le_refl _, by show s ≤ X.length; omega⟩
  · split
    · have := @skF_le (isL X) (X.length - s) s
      exact ⟨this.1, by show skF _ _ _ ≤ _; omega⟩
    · split
      · have := @skF_le (isD X) (X.length - s) s
        exact ⟨this.1, by show skF _ _ _ ≤ _; omega⟩
      · split
        · exact ⟨by show s ≤ s + 1; omega, by show s + 1 ≤ X.length; omega⟩
        · exact ⟨by show s ≤ s + 1; omega, by show s + 1 ≤ X.length; omega⟩
/-! a word's number says which it is -/
theorem cd_lt {X : List Nat} {s : Nat} : ∀ n, (∀ i, i < n → isL X (s + i) = true) → cd X s n < 27 ^ n
  | 0, _ => Nat.zero_lt_one
  | n + 1, h => by
    have ih := cd_lt (X := X) (s := s) n (fun i hi => h i (by omega))
    have hl := of_decide_eq_true (h n (by omega))
    rw [cd, Nat.pow_succ]
    omega
theorem cd_ge {X : List Nat} {s : Nat} : ∀ n, (∀ i, i < n + 1 → isL X (s + i) = true) → 27 ^ n ≤ cd X s (n + 1)
  | 0, h => by
    have hl := of_decide_eq_true (h 0 (by omega))
    rw [cd, cd, Nat.pow_zero]; omega
  | n + 1, h => by
    have ih := cd_ge (X := X) (s := s) n (fun i hi => h i (by omega))
    rw [cd, Nat.pow_succ]
    omega
theorem cd_len {X : List Nat} {s n m C : Nat} (h : ∀ i, i < n → isL X (s + i) = true) (h1 : 27 ^ m ≤ C) (h2 : C < 27 ^ (m + 1)) (e : cd X s n = C) : n = m + 1 := by
  rcases Nat.lt_trichotomy n (m + 1) with z | z | z
  · have := cd_lt n h
    have h3 : 27 ^ n ≤ 27 ^ m := Nat.pow_le_pow_right (by omega) (by omega)
    omega
  · exact z
  · obtain ⟨j, rfl⟩ : ∃ j, n = j + 1 := ⟨n - 1, by omega⟩
    have := cd_ge j h
    have h3 : 27 ^ (m + 1) ≤ 27 ^ j := Nat.pow_le_pow_right (by omega) (by omega)
    omega
/-- the i-th of the six words stands at s, of n letters -/
def isW (X : List Nat) (s n i : Nat) : Prop := n = slen.getD i 0 ∧ ∀ j, j < slen.getD i 0 → nI (gd X (s + j)) = (sbyt.getD i []).getD j 0
def wcode (i : Nat) : Nat := [232608281, 394724, 6946700, 10793234, 13903, 267413].getD i 0
def wl (i : Nat) : List Nat := [[112, 101, 114, 115, 111, 110], [116, 97, 108, 107], [109, 97, 121, 98, 101], [116, 104, 105, 110, 107], [115, 97, 121], [109, 111, 118, 101]].getD i []
def clw (l : List Nat) : Nat → Nat
  | 0 => 0
  | k + 1 => 27 * clw l k + (l.getD k 0 - 96)
theorem wl_len : ∀ i, i < 6 → slen.getD i 0 = (wl i).length := by decide
theorem wl_by : ∀ i, i < 6 → ∀ j, j < (wl i).length → (sbyt.getD i []).getD j 0 = nI ((wl i).getD j 0) := by decide
theorem wl_L : ∀ i, i < 6 → ∀ j, j < (wl i).length → 97 ≤ (wl i).getD j 0 ∧ (wl i).getD j 0 ≤ 122 := by decide
theorem wl_cd : ∀ i, i < 6 → clw (wl i) (wl i).length = wcode i := by decide
theorem wl_pw : ∀ i, i < 6 → (wl i).length = ((wl i).length - 1) + 1 ∧ 27 ^ ((wl i).length - 1) ≤ wcode i ∧ wcode i < 27 ^ ((wl i).length - 1 + 1) ∧ wcode i < 27 ^ 6 := by decide
theorem cd_eq {X : List Nat} {s : Nat} {l : List Nat} : ∀ n, (∀ i, i < n → isL X (s + i) = true) → (∀ i, i < n → 97 ≤ l.getD i 0 ∧ l.getD i 0 ≤ 122) → (cd X s n = clw l n ↔ ∀ j, j < n → gd X (s + j) = l.getD j 0)
  | 0, _, _ => ⟨fun _ j hj => absurd hj (by omega), fun _ => rfl⟩
  | n + 1, h, hl => by
    have ih := cd_eq (X := X) (s := s) (l := l) n (fun i hi => h i (by omega)) (fun i hi => hl i (by omega))
    have h1 := of_decide_eq_true (h n (by omega))
    have h2 := hl n (by omega)
    rw [cd, clw]
    constructor
    · intro e j hj
      rcases (show j < n ∨ j = n by omega) with z | z
      · exact ih.mp (by omega) j z
      · subst z; omega
    · intro e
      have e1 := ih.mpr (fun j hj => e j (by omega))
      have e2 := e n (by omega)
      rw [e1, e2]
theorem word_iff {X : List Nat} {s n i : Nat} (hi : i < 6) (hb : ∀ k, gd X k < 256) (hl : ∀ j, j < n → isL X (s + j) = true) : isW X s n i ↔ cd X s n = wcode i := by
  obtain ⟨p1, p2, p3, -⟩ := wl_pw i hi
  rw [isW, wl_len i hi]
  have key : n = (wl i).length → (cd X s n = wcode i ↔ ∀ j, j < n → gd X (s + j) = (wl i).getD j 0) := by
    rintro rfl
    rw [← wl_cd i hi]
    exact cd_eq _ hl (wl_L i hi)
  constructor
  · rintro ⟨h1, h2⟩
    refine (key h1).mpr (fun j hj => ?_)
    rw [h1] at hj
    have := h2 j hj
    rw [wl_by i hi j hj] at this
    exact inj_nI (by have := hb (s + j); omega) (by have := (wl_L i hi j hj).2; omega) this
  · intro e
    have hn : n = (wl i).length := by rw [p1]; exact cd_len hl p2 p3 e
    refine ⟨hn, fun j hj => ?_⟩
    rw [wl_by i hi j hj, (key hn).mp e j (by omega)]
theorem cdW_iff {X : List Nat} {s e i : Nat} (hi : i < 6) (hl : ∀ j, j < e - s → isL X (s + j) = true) : cdW X s e = wcode i ↔ cd X s (e - s) = wcode i := by
  obtain ⟨p1, p2, p3, p4⟩ := wl_pw i hi
  rw [cdW]
  split
  · exact Iff.rfl
  · rename_i h
    obtain ⟨j, hj⟩ : ∃ j, e - s = j + 1 := ⟨e - s - 1, by omega⟩
    have h0 : 0 < wcode i := Nat.lt_of_lt_of_le (Nat.pow_pos (by omega)) p2
    have := cd_ge (X := X) (s := s) j (fun i hi => hl i (by omega))
    have h3 : 27 ^ 6 ≤ 27 ^ j := Nat.pow_le_pow_right (by omega) (by omega)
    rw [hj]
    constructor
    · intro z; omega
    · intro z; omega
/-! ===== the class: TOKENS ===== -/
theorem gd_lt {X : List Nat} (h : okX X) (k : Nat) : gd X k < 256 := by
  rcases Nat.lt_or_ge k X.length with z | z
  · exact h.2 k z
  · rw [gd, List.getD, List.getElem?_eq_none z]; exact (by decide : (0 : Nat) < 256)
theorem C_byte {E : EV} {Q : Sg → Int32 → Prop} {σ : Sg} {X : List Nat} {p : Nat} (h : TxC σ X) (hX : okX X) (hp : p < X.length) (hq : Q σ (nI (gd X p))) : MetI E mi_X4_byteAt [.ref 1, .int (nI p)] σ Q := by
  have hL := hX.1
  refine M_X4_byteAt_1 ⟨fun z => absurd z (nI_pos (by omega)), fun _ => ⟨fun z => absurd z (by rw [h.1]; exact nI_ge hp (by omega)), fun _ => ⟨vpn (by omega) (by omega), ?_⟩⟩⟩
  rw [cl (by omega), h.2 p hp]; exact hq
theorem C_byteE {E : EV} {Q : Sg → Int32 → Prop} {σ : Sg} {X : List Nat} {p : Nat} (h : TxC σ X) (hX : okX X) (hp : X.length ≤ p) (hp2 : p < 2 ^ 31) (hq : Q σ (-1)) : MetI E mi_X4_byteAt [.ref 1, .int (nI p)] σ Q :=
  M_X4_byteAt_1 ⟨fun z => absurd z (nI_pos hp2), fun _ => ⟨fun _ => hq, fun z => absurd (by rw [h.1]; exact nI_le hp hp2) z⟩⟩
theorem C_letter {E : EV} {Q : Sg → Int32 → Prop} {σ : Sg} {x : Nat} (hx : x < 256) (hq : Q σ (bi (97 ≤ x ∧ x ≤ 122))) : MetI E mi_X2_isLetter [.int (nI x)] σ Q := by
  refine M_X2_isLetter ⟨fun h => ?_, fun h => ⟨fun h2 => ?_, fun h2 => ?_⟩⟩
  all_goals rw [show (97 : Int32) = nI 97 from rfl, nI_ltI (by omega) (by omega)] at h
  · exact q0 hq (by omega)
  all_goals rw [show (122 : Int32) = nI 122 from rfl, nI_ltI (by omega) (by omega)] at h2
  · exact q0 hq (by omega)
  · exact q1 hq (by omega)
theorem C_digit {E : EV} {Q : Sg → Int32 → Prop} {σ : Sg} {x : Nat} (hx : x < 256) (hq : Q σ (bi (48 ≤ x ∧ x ≤ 57))) : MetI E mi_X2_isDigit [.int (nI x)] σ Q := by
  refine M_X2_isDigit ⟨fun h => ?_, fun h => ⟨fun h2 => ?_, fun h2 => ?_⟩⟩
  all_goals rw [show (48 : Int32) = nI 48 from rfl, nI_ltI (by omega) (by omega)] at h
  · exact q0 hq (by omega)
  all_goals rw [show (57 : Int32) = nI 57 from rfl, nI_ltI (by omega) (by omega)] at h2
  · exact q0 hq (by omega)
  · exact q1 hq (by omega)
/-- of the reader's numbers only these have changed -/
def Rd (σ τ : Sg) : Prop := Fr 11 11 σ τ
theorem C_word {E : EV} {Q : Sg → Prop} {X : List Nat} (hX : okX X) : ∀ (f p : Nat) (σ : Sg), p + f = X.length → TxC σ X → gi σ 1103 = nI p → (∀ τ, Fr 11 11 σ τ → gi τ 1103 = nI (skF (isL X) f p) → gi τ 1106 = gi σ 1106 → gi τ 1104 = 1 → Q τ) → K_X2_readWord_11_0 E Q σ
  | 0, p, σ, hp, h, e, hq => by
    have hL := hX.1
    refine B_X2_readWord_11_0 ⟨fun _ => hq _ (Fr.rf.si (by omega) (by omega)) e rfl rfl, fun z => absurd (by rw [h.1, e]; exact nI_le (by omega) (by omega)) z⟩
  | f + 1, p, σ, hp, h, e, hq => by
    have hL := hX.1
    refine B_X2_readWord_11_0 ⟨fun z => absurd z (by rw [h.1, e]; exact nI_ge (by omega) (by omega)), fun _ => ?_⟩
    rw [e]
    refine C_byte h hX (by omega) (C_letter (gd_lt hX p) ⟨fun z => ?_, fun z => ?_⟩)
    · rw [bi_0] at z
      refine hq _ (Fr.rf.si (by omega) (by omega)) ?_ rfl rfl
      rw [skF, if_neg (show ¬ isL X p = true from fun w => z (of_decide_eq_true w))]; exact e
    · rw [bi_n0] at z
      refine C_word hX f (p + 1) _ (by omega) (h.fr (Fr.si Fr.rf (lo := 11) (hi := 11) (by omega) (by omega)) (by omega)) (by rw [gi_si_s, e, nI_1]) (fun τ f2 a1 a2 a3 => hq τ ((Fr.si Fr.rf (by omega) (by omega)).tr f2) ?_ a2 a3)
      rw [a1, skF, if_pos (show isL X p = true from decide_eq_true z)]
theorem cap_step {v x : Nat} (hv : v ≤ 100) (hx : 48 ≤ x ∧ x ≤ 57) : (if (100 : Int32) < ((((nI v) * (10 : Int32)) + nI x) - (48 : Int32)) then (100 : Int32) else ((((nI v) * (10 : Int32)) + nI x) - (48 : Int32))) = nI (min (10 * v + (x - 48)) 100) := by
  rw [show (10 : Int32) = nI 10 from rfl, show (48 : Int32) = nI 48 from rfl, show (100 : Int32) = nI 100 from rfl, pk_mul, nI_add, pk_sub (by omega)]
  have hi := nI_ltI (a := 100) (b := v * 10 + x - 48) (by omega) (by omega)
  by_cases h : 100 < v * 10 + x - 48
  · rw [if_pos (hi.mpr h), Nat.min_eq_right (by omega)]
  · rw [if_neg (fun z => h (hi.mp z)), Nat.min_eq_left (by omega)]; exact congrArg nI (by omega)
theorem dv_le {X : List Nat} : ∀ f p v, v ≤ 100 → dv X f p v ≤ 100
  | 0, _, v, h => h
  | f + 1, p, v, h => by
    rw [dv]
    split
    · exact dv_le f (p + 1) _ (Nat.min_le_right _ _)
    · exact h
theorem C_digits {E : EV} {Q : Sg → Prop} {X : List Nat} {s : Nat} (hX : okX X) (hs : s < X.length) : ∀ (f p v : Nat) (σ : Sg), p + f = X.length → s ≤ p → v ≤ 100 → TxC σ X → gi σ 1103 = nI p → gi σ 1105 = nI v → gi σ 1106 = nI s → (∀ τ, Fr 11 11 σ τ → gi τ 1103 = nI (skF (isD X) f p) → gi τ 1106 = nI s → gi τ 1105 = nI (dv X f p v) → gi τ 1104 = (if dv X f p v ≤ 99 ∧ ¬ (gd X s = 48 ∧ 1 < skF (isD X) f p - s) then 2 else 4) → Q τ) → K_X2_readDigits_11_5 E Q σ := by
  have hL := hX.1
  -- the end
  have fin : ∀ (p v : Nat) (σ : Sg), s ≤ p → p < 2 ^ 31 → v ≤ 100 → TxC σ X → gi σ 1103 = nI p → gi σ 1105 = nI v → gi σ 1106 = nI s → (∀ x : Int32, x = (if v ≤ 99 ∧ ¬ (gd X s = 48 ∧ 1 < p - s) then 2 else 4) → Q (si σ 1104 x)) → MetI E mi_X4_byteAt [.ref 1, .int (gi σ 1106)] σ (fun τ2 r3 => ((¬ r3 = (48 : Int32)) → (((gi τ2 1105) ≤ (99 : Int32)) → Q (si τ2 1104 (2 : Int32))) ∧ ((¬ (gi τ2 1105) ≤ (99 : Int32)) → Q (si τ2 1104 (4 : Int32)))) ∧ ((r3 = (48 : Int32)) → ((((gi τ2 1103) - (gi τ2 1106)) ≤ (1 : Int32)) → (((gi τ2 1105) ≤ (99 : Int32)) → Q (si τ2 1104 (2 : Int32))) ∧ ((¬ (gi τ2 1105) ≤ (99 : Int32)) → Q (si τ2 1104 (4 : Int32)))) ∧ ((¬ ((gi τ2 1103) - (gi τ2 1106)) ≤ (1 : Int32)) → Q (si τ2 1104 (4 : Int32))))) := by
    intro p v σ hp hp2 hv h e3 e5 e6 hk
    rw [e6]
    refine C_byte h hX hs ?_
    have c99 : gi σ 1105 ≤ (99 : Int32) ↔ v ≤ 99 := by rw [e5, show (99 : Int32) = nI 99 from rfl, nI_leI (by omega) (by omega)]
    have c1 : (gi σ 1103 - gi σ 1106) ≤ (1 : Int32) ↔ p - s ≤ 1 := by rw [e3, e6, pk_sub hp, show (1 : Int32) = nI 1 from rfl, nI_leI (by omega) (by omega)]
    have c48 : nI (gd X s) = (48 : Int32) ↔ gd X s = 48 := ⟨fun z => inj_nI (by have := gd_lt hX s; omega) (by omega) z, fun z => by rw [z]; rfl⟩
    rw [c99, c1, c48]
    refine ⟨fun z => ⟨fun y => hk _ (if_pos ⟨y, fun w => z w.1⟩).symm, fun y => hk _ (if_neg (fun w => y w.1)).symm⟩, fun z => ⟨fun w => ⟨fun y => hk _ (if_pos ⟨y, fun u => by omega⟩).symm, fun y => hk _ (if_neg (fun u => y u.1)).symm⟩, fun w => hk _ (if_neg (fun u => u.2 ⟨z, by omega⟩)).symm⟩⟩
  intro f
  induction f with
  | zero =>
    intro p v σ hp hsp hv h e3 e5 e6 hq
    refine B_X2_readDigits_11_5 ⟨fun _ => fin p v σ hsp (by omega) hv h e3 e5 e6 (fun x hx => hq _ (Fr.rf.si (by omega) (by omega)) e3 e6 e5 ?_), fun z => absurd (by rw [h.1, e3]; exact nI_le (by omega) (by omega)) z⟩
    rw [gi_si_s, hx]; rfl
  | succ f ih =>
    intro p v σ hp hsp hv h e3 e5 e6 hq
    refine B_X2_readDigits_11_5 ⟨fun z => absurd z (by rw [h.1, e3]; exact nI_ge (by omega) (by omega)), fun _ => ?_⟩
    rw [e3]
    refine C_byte h hX (by omega) (C_digit (gd_lt hX p) ⟨fun z => ?_, fun z => ?_⟩)
    · rw [bi_0] at z
      have zd : ¬ isD X p = true := fun w => z (of_decide_eq_true w)
      refine fin p v σ hsp (by omega) hv h e3 e5 e6 (fun x hx => hq _ (Fr.rf.si (by omega) (by omega)) ?_ e6 ?_ ?_)
      · rw [skF, if_neg zd]; exact e3
      · rw [dv, if_neg zd]; exact e5
      · rw [gi_si_s, hx, dv, skF, if_neg zd, if_neg zd]
    · rw [bi_n0] at z
      have zd : isD X p = true := decide_eq_true z
      rw [e3]
      refine C_byte h hX (by omega) ?_
      rw [e5, cap_step hv z, e3, nI_1]
      refine ih (p + 1) _ _ (by omega) (by omega) (Nat.min_le_right _ _) (h.fr (Fr.si (Fr.si Fr.rf (lo := 11) (hi := 11) (by omega) (by omega)) (by omega) (by omega)) (by omega)) gi_si_s rfl e6 (fun τ f2 a1 a2 a3 a4 => hq τ ((Fr.si (Fr.si Fr.rf (by omega) (by omega)) (by omega) (by omega)).tr f2) ?_ a2 ?_ ?_)
      · rw [a1, skF, if_pos zd]
      · rw [a3, dv, if_pos zd]
      · rw [a4, dv, skF, if_pos zd, if_pos zd]
