/-! ===== TOKENS of a text ===== -/
/-- the first place from p on that isn't so, or behind f more -/
def skF (c : Nat → Bool) : Nat → Nat → Nat
  | 0, p => p
  | f + 1, p => if c p = true then skF c f (p + 1) else p
theorem skF_le {c : Nat → Bool} : ∀ f p, p ≤ skF c f p ∧ skF c f p ≤ p + f
  | 0, p => ⟨Nat.le_refl p, Nat.le_refl p⟩
  | f + 1, p => by
    rw [skF]
    split
    · have := @skF_le c f (p + 1); omega
    · omega
theorem skF_all {c : Nat → Bool} : ∀ f p i, p ≤ i → i < skF c f p → c i = true
  | 0, p, i, h1, h2 => absurd h2 (by rw [skF]; omega)
  | f + 1, p, i, h1, h2 => by
    rw [skF] at h2
    split at h2
    · rename_i h
      rcases (show i = p ∨ p + 1 ≤ i by omega) with z | z
      · rw [z]; exact h
      · exact skF_all f (p + 1) i z h2
    · omega
def isB (X : List Nat) (p : Nat) : Bool := decide (gd X p = 32)
def isL (X : List Nat) (p : Nat) : Bool := decide (97 ≤ gd X p ∧ gd X p ≤ 122)
def isD (X : List Nat) (p : Nat) : Bool := decide (48 ≤ gd X p ∧ gd X p ≤ 57)
/-- a number as far as its digits have been read, 100 for all above -/
def dv (X : List Nat) : Nat → Nat → Nat → Nat
  | 0, _, v => v
  | f + 1, p, v => if isD X p = true then dv X f (p + 1) (min (10 * v + (gd X p - 48)) 100) else v
/-- a word as a number -/
def cd (X : List Nat) (s : Nat) : Nat → Nat
  | 0 => 0
  | k + 1 => 27 * cd X s k + (gd X (s + k) - 96)
def mean (c : Nat) : Nat := if c = 13903 then 3 else if c = 267413 then 4 else if c = 394724 then 0 else if c = 6946700 then 1 else if c = 10793234 then 2 else if c = 232608281 then 5 else 9
def cdW (X : List Nat) (s e : Nat) : Nat := if e - s ≤ 6 then cd X s (e - s) else 0
/-- 0 .. 4 an event's word, 5 person, 6 the end, 7 a number, 8 ';', 9 wrong; start, end, number -/
def tokAt (X : List Nat) (s : Nat) : Nat × Nat × Nat × Nat :=
  if X.length ≤ s then (6, s, s, 0)
  else if isL X s = true then (mean (cdW X s (skF (isL X) (X.length - s) s)), s, skF (isL X) (X.length - s) s, 0)
  else if isD X s = true then (if dv X (X.length - s) s 0 ≤ 99 ∧ ¬ (gd X s = 48 ∧ 1 < skF (isD X) (X.length - s) s - s) then 7 else 9, s, skF (isD X) (X.length - s) s, dv X (X.length - s) s 0)
  else if gd X s = 59 then (8, s, s + 1, 0) else (9, s, s + 1, 0)
def tok (X : List Nat) (p : Nat) : Nat × Nat × Nat × Nat := tokAt X (skF (isB X) (X.length - p) p)
theorem tok_start {X : List Nat} {p : Nat} : (tok X p).2.1 = skF (isB X) (X.length - p) p := by
  rw [tok, tokAt]
  split
  · rfl
  · split
    · rfl
    · split
      · rfl
      · split <;> rfl
theorem tok_le {X : List Nat} {p : Nat} (hp : p ≤ X.length) : p ≤ (tok X p).2.1 ∧ (tok X p).2.1 ≤ X.length ∧ (tok X p).2.1 ≤ (tok X p).2.2.1 ∧ (tok X p).2.2.1 ≤ X.length := by
  have h := @skF_le (isB X) (X.length - p) p
  rw [tok_start]
  refine ⟨h.1, by omega, ?_⟩
  rw [tok]
  generalize skF (isB X) (X.length - p) p = s at h
  rw [tokAt]
  split
  · exact ⟨Nat.le_refl _, by show s ≤ X.length; omega⟩
  · split
    · have := @skF_le (isL X) (X.length - s) s
      exact ⟨this.1, by show skF _ _ _ ≤ _; omega⟩
    · split
      · have := @skF_le (isD X) (X.length - s) s
        exact ⟨this.1, by show skF _ _ _ ≤ _; omega⟩
      · split
        · exact ⟨by show s ≤ s + 1; omega, by show s + 1 ≤ X.length; omega⟩
        · exact ⟨by show s ≤ s + 1; omega, by show s + 1 ≤ X.length; omega⟩
/-! a word's number says which it is -/
theorem cd_lt {X : List Nat} {s : Nat} : ∀ n, (∀ i, i < n → isL X (s + i) = true) → cd X s n < 27 ^ n
  | 0, _ => Nat.zero_lt_one
  | n + 1, h => by
    have ih := cd_lt (X := X) (s := s) n (fun i hi => h i (by omega))
    have hl := of_decide_eq_true (h n (by omega))
    rw [cd, Nat.pow_succ]
    omega
theorem cd_ge {X : List Nat} {s : Nat} : ∀ n, (∀ i, i < n + 1 → isL X (s + i) = true) → 27 ^ n ≤ cd X s (n + 1)
  | 0, h => by
    have hl := of_decide_eq_true (h 0 (by omega))
    rw [cd, cd, Nat.pow_zero]; omega
  | n + 1, h => by
    have ih := cd_ge (X := X) (s := s) n (fun i hi => h i (by omega))
    rw [cd, Nat.pow_succ]
    omega
theorem cd_len {X : List Nat} {s n m C : Nat} (h : ∀ i, i < n → isL X (s + i) = true) (h1 : 27 ^ m ≤ C) (h2 : C < 27 ^ (m + 1)) (e : cd X s n = C) : n = m + 1 := by
  rcases Nat.lt_trichotomy n (m + 1) with z | z | z
  · have := cd_lt n h
    have h3 : 27 ^ n ≤ 27 ^ m := Nat.pow_le_pow_right (by omega) (by omega)
    omega
  · exact z
  · obtain ⟨j, rfl⟩ : ∃ j, n = j + 1 := ⟨n - 1, by omega⟩
    have := cd_ge j h
    have h3 : 27 ^ (m + 1) ≤ 27 ^ j := Nat.pow_le_pow_right (by omega) (by omega)
    omega
/-- the i-th of the six words stands at s, of n letters -/
def isW (X : List Nat) (s n i : Nat) : Prop := n = slen.getD i 0 ∧ ∀ j, j < slen.getD i 0 → nI (gd X (s + j)) = (sbyt.getD i []).getD j 0
def wcode (i : Nat) : Nat := [232608281, 394724, 6946700, 10793234, 13903, 267413].getD i 0
theorem isW_of {X : List Nat} {s n i C : Nat} {l : List Nat} (hb : ∀ k, gd X k < 256) (hl : ∀ j, j < n → isL X (s + j) = true) (hn : slen.getD i 0 = l.length) (hs : ∀ j, j < l.length → (sbyt.getD i []).getD j 0 = nI (l.getD j 0)) (h256 : ∀ j, j < l.length → l.getD j 0 < 256) (hc : cd X s n = C ↔ n = l.length ∧ ∀ j, j < l.length → gd X (s + j) = l.getD j 0) : isW X s n i ↔ cd X s n = C := by
  rw [hc, isW, hn]
  constructor
  · rintro ⟨h1, h2⟩
    refine ⟨h1, fun j hj => ?_⟩
    have := h2 j hj
    rw [hs j hj] at this
    exact inj_nI (by have := hb (s + j); omega) (by have := h256 j hj; omega) this
  · rintro ⟨h1, h2⟩
    refine ⟨h1, fun j hj => ?_⟩
    rw [h2 j hj, hs j hj]
theorem cd_eq3 {X : List Nat} {s a b c : Nat} (h : ∀ i, i < 3 → isL X (s + i) = true) (ha : 97 ≤ a ∧ a ≤ 122) (hb : 97 ≤ b ∧ b ≤ 122) (hc : 97 ≤ c ∧ c ≤ 122) : cd X s 3 = 27 * (27 * (a - 96) + (b - 96)) + (c - 96) ↔ gd X (s + 0) = a ∧ gd X (s + 1) = b ∧ gd X (s + 2) = c := by
  have h0 := of_decide_eq_true (h 0 (by omega))
  have h1 := of_decide_eq_true (h 1 (by omega))
  have h2 := of_decide_eq_true (h 2 (by omega))
  rw [cd, cd, cd, cd]
  omega
