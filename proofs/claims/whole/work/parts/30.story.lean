/-! ===== a story of one thing, as both programs tell it: places, from whom, voices, the day of the law, the three (0: none) ===== -/
abbrev SS : Type := (Nat → Int32) × (Nat → Int32) × (Nat → Int32) × Int32 × Int32
def one (p : Nat) : Int32 := (1 : Int32) <<< (nI p &&& 31)
def tA (x : Nat) : Nat := x / 64
def tB (x : Nat) : Nat := x / 8 % 8
def tC (x : Nat) : Nat := x % 8
/-- three whose voices have nobody in common, as one number *)-/
abbrev tri (vo : Nat → Int32) (x : Nat) : Prop := (tA x < tB x ∧ tB x < tC x) ∧ (¬ vo (tA x) = 0 ∧ ¬ vo (tB x) = 0 ∧ ¬ vo (tC x) = 0) ∧ vo (tA x) &&& vo (tB x) = 0 ∧ vo (tA x) &&& vo (tC x) = 0 ∧ vo (tB x) &&& vo (tC x) = 0
def mask3 (x : Nat) : Int32 := (one (tA x) ||| one (tB x)) ||| one (tC x)
def leastO : Option Nat → Int32
  | some x => mask3 x
  | none => 0
def fnd (vo : Nat → Int32) : Option Nat := (List.range 512).find? (fun x => decide (tri vo x))
def least (vo : Nat → Int32) : Int32 := leastO (fnd vo)
theorem mask3_n0 : ∀ x, x < 512 → ¬ mask3 x = 0 := by decide +kernel
theorem one_n0 : ∀ p, p < 8 → ¬ one p = 0 := by decide +kernel
theorem least_some {vo : Nat → Int32} {x : Nat} (hx : x < 512) (h : tri vo x) (hl : ∀ y, y < x → ¬ tri vo y) : least vo = mask3 x := by
  have : fnd vo = some x := by
    rw [fnd, List.find?_range_eq_some]
    exact ⟨decide_eq_true h, List.mem_range.mpr hx, fun j hj => by rw [decide_eq_false (hl j hj)]; rfl⟩
  show leastO (fnd vo) = _
  rw [this]; rfl
theorem least_none {vo : Nat → Int32} (hl : ∀ y, y < 512 → ¬ tri vo y) : least vo = 0 := by
  have : fnd vo = none := by
    rw [fnd, List.find?_eq_none]
    intro x hx
    rw [decide_eq_false (hl x (List.mem_range.mp hx))]
    exact Bool.false_ne_true
  show leastO (fnd vo) = _
  rw [this]; rfl
theorem least_0 {vo : Nat → Int32} : least vo = 0 ↔ ∀ y, y < 512 → ¬ tri vo y := by
  constructor
  · intro h
    cases hf : fnd vo with
    | some x =>
      have h : leastO (fnd vo) = 0 := h
      rw [hf] at h
      rw [fnd] at hf
      exact absurd h (mask3_n0 x (List.mem_range.mp (List.mem_of_find?_eq_some hf)))
    | none =>
      rw [fnd, List.find?_eq_none] at hf
      intro y hy hc
      exact hf y (List.mem_range.mpr hy) (decide_eq_true hc)
  · exact least_none
theorem tri_congr {vo wo : Nat → Int32} (h : ∀ p, p < 8 → vo p = wo p) {x : Nat} (hx : x < 512) : tri vo x ↔ tri wo x := by
  have a : tA x < 8 := by rw [tA]; omega
  have b : tB x < 8 := by rw [tB]; omega
  have c : tC x < 8 := by rw [tC]; omega
  rw [tri, tri, h _ a, h _ b, h _ c]
theorem least_congr {vo wo : Nat → Int32} (h : ∀ p, p < 8 → vo p = wo p) : least vo = least wo := by
  have : ∀ l : List Nat, (∀ x ∈ l, x < 512) → l.find? (fun x => decide (tri vo x)) = l.find? (fun x => decide (tri wo x)) := by
    intro l
    induction l with
    | nil => intro _; rfl
    | cons a l ih =>
      intro hl
      rw [List.find?_cons, List.find?_cons, ih (fun x hx => hl x (List.mem_cons_of_mem _ hx))]
      have : decide (tri vo a) = decide (tri wo a) := by
        rw [decide_eq_decide]
        exact tri_congr h (hl a List.mem_cons_self)
      rw [this]
  have h2 : fnd vo = fnd wo := this _ (fun x hx => List.mem_range.mp hx)
  show leastO (fnd vo) = leastO (fnd wo)
  rw [h2]
def think (p : Nat) (S : SS) : SS := if S.2.1 p = 0 then (S.1, upd S.2.1 p (one p), S.2.2) else S
def talk (a b : Nat) (S : SS) : SS := (S.1, upd S.2.1 b (S.2.1 b ||| S.2.1 a), S.2.2)
def move (a : Nat) (l : Int32) (S : SS) : SS := (upd S.1 a l, S.2)
def lawOf (d l : Int32) : Int32 := if l = 0 then -9 else d
def speak (p : Nat) (day : Int32) (S : SS) : SS :=
  if S.2.2.1 p = 0 then
    (if S.2.2.2.2 = 0 then (S.1, S.2.1, upd S.2.2.1 p (S.2.1 p), lawOf day (least (upd S.2.2.1 p (S.2.1 p))), least (upd S.2.2.1 p (S.2.1 p)))
    else (S.1, S.2.1, upd S.2.2.1 p (S.2.1 p), S.2.2.2))
  else S
def hear (n p : Nat) (S : SS) : SS := (S.1, fun q => if q < n ∧ S.1 q = S.1 p then S.2.1 q ||| S.2.1 p else S.2.1 q, S.2.2)
def say (n p : Nat) (day : Int32) (S : SS) : SS := hear n p (speak p day (think p S))
/-- one event; m: what the set has of its bit; y: who stays -/
def evS (n t : Nat) (y : Int32) (m : Int32) (e : Ev) (S : SS) : SS :=
  if e.1 = 0 then talk e.2.2.1 e.2.2.2 S
  else if e.1 = 1 then (if m = 0 then S else talk e.2.2.1 e.2.2.2 S)
  else if e.1 = 2 then (if e.2.2.2 = t then think e.2.2.1 S else S)
  else if e.1 = 3 then (if e.2.2.2 = t then say n e.2.2.1 (nI e.2.1) S else S)
  else (if nI e.2.2.1 = y then S else move e.2.2.1 (nI e.2.2.2) S)
/-- j events from the k-th on -/
def runS (n t : Nat) (y set : Int32) (l : List Ev) : Nat → Nat → SS → SS
  | 0, _, S => S
  | j + 1, k, S => runS n t y set l j (k + 1) (evS n t y (set &&& mb l k) (ge l k) S)
theorem runS_add {n t : Nat} {y set : Int32} {l : List Ev} : ∀ (i j k : Nat) (S : SS), runS n t y set l (i + j) k S = runS n t y set l j (k + i) (runS n t y set l i k S)
  | 0, j, k, S => by rw [Nat.zero_add]; rfl
  | i + 1, j, k, S => by rw [show i + 1 + j = (i + j) + 1 by omega, runS, runS_add i j (k + 1), runS, show k + 1 + i = k + (i + 1) by omega]
def init (P : List Nat) : SS := (fun p => nI (gd P p), fun _ => 0, fun _ => 0, -9, 0)
/-- alike as far as n people can tell -/
def Al (n : Nat) (S R : SS) : Prop := (∀ p, p < n → S.1 p = R.1 p) ∧ (∀ p, p < 8 → S.2.1 p = R.2.1 p) ∧ (∀ p, p < 8 → S.2.2.1 p = R.2.2.1 p) ∧ S.2.2.2 = R.2.2.2
theorem Al.rf {n : Nat} {S : SS} : Al n S S := ⟨fun _ _ => rfl, fun _ _ => rfl, fun _ _ => rfl, rfl⟩
theorem Al.sy {n : Nat} {S R : SS} (h : Al n S R) : Al n R S := ⟨fun p q => (h.1 p q).symm, fun p q => (h.2.1 p q).symm, fun p q => (h.2.2.1 p q).symm, h.2.2.2.symm⟩
theorem Al.tr {n : Nat} {S R U : SS} (h : Al n S R) (h2 : Al n R U) : Al n S U := ⟨fun p q => (h.1 p q).trans (h2.1 p q), fun p q => (h.2.1 p q).trans (h2.2.1 p q), fun p q => (h.2.2.1 p q).trans (h2.2.2.1 p q), h.2.2.2.trans h2.2.2.2⟩
theorem upd_al {f g : Nat → Int32} {k : Nat} {x : Int32} {N : Nat} (h : ∀ p, p < N → f p = g p) : ∀ p, p < N → upd f k x p = upd g k x p := by
  intro p hp
  by_cases e : p = k
  · subst e; rw [upd_s, upd_s]
  · rw [upd_n e, upd_n e, h p hp]
theorem think_al {n p : Nat} {S R : SS} (h : Al n S R) (hp : p < 8) : Al n (think p S) (think p R) := by
  have e := h.2.1 p hp
  rw [think, think, e]
  split
  · exact ⟨h.1, upd_al h.2.1, h.2.2.1, h.2.2.2⟩
  · exact h
theorem talk_al {n a b : Nat} {S R : SS} (h : Al n S R) (ha : a < 8) (hb : b < 8) : Al n (talk a b S) (talk a b R) := by
  rw [talk, talk, h.2.1 a ha, h.2.1 b hb]
  exact ⟨h.1, upd_al h.2.1, h.2.2.1, h.2.2.2⟩
theorem move_al {n a : Nat} {l : Int32} {S R : SS} (h : Al n S R) : Al n (move a l S) (move a l R) := ⟨upd_al h.1, h.2.1, h.2.2.1, h.2.2.2⟩
theorem speak_al {n p : Nat} {d : Int32} {S R : SS} (h : Al n S R) (hp : p < 8) : Al n (speak p d S) (speak p d R) := by
  have e := h.2.1 p hp
  have e2 := h.2.2.1 p hp
  have e3 : S.2.2.2.2 = R.2.2.2.2 := by rw [h.2.2.2]
  have u : ∀ q, q < 8 → upd S.2.2.1 p (S.2.1 p) q = upd R.2.2.1 p (R.2.1 p) q := by rw [e]; exact upd_al h.2.2.1
  have el := least_congr u
  rw [speak, speak, e2, e3]
  split
  · split
    · rw [el]; exact ⟨h.1, h.2.1, u, rfl⟩
    · exact ⟨h.1, h.2.1, u, h.2.2.2⟩
  · exact h
theorem hear_al {n p : Nat} {S R : SS} (h : Al n S R) (hn : n ≤ 8) (hp : p < n) : Al n (hear n p S) (hear n p R) := by
  refine ⟨h.1, fun q hq => ?_, h.2.2.1, h.2.2.2⟩
  show (if q < n ∧ S.1 q = S.1 p then S.2.1 q ||| S.2.1 p else S.2.1 q) = if q < n ∧ R.1 q = R.1 p then R.2.1 q ||| R.2.1 p else R.2.1 q
  rw [h.2.1 q hq, h.2.1 p (by omega), h.1 p hp]
  by_cases z : q < n
  · rw [h.1 q z]
  · rw [if_neg (fun w => z w.1), if_neg (fun w => z w.1)]
theorem say_al {n p : Nat} {d : Int32} {S R : SS} (h : Al n S R) (hn : n ≤ 8) (hp : p < n) : Al n (say n p d S) (say n p d R) := hear_al (speak_al (think_al h (by omega)) (by omega)) hn hp
theorem evS_al {n t : Nat} {y m : Int32} {e : Ev} {S R : SS} (h : Al n S R) (hn : n ≤ 8) (he : okE n e) : Al n (evS n t y m e S) (evS n t y m e R) := by
  obtain ⟨h1, h2, h3, h4⟩ := he
  rw [evS, evS]
  split
  · exact talk_al h (by omega) (by have := (h3 (by omega)).1; omega)
  · split
    · split
      · exact h
      · exact talk_al h (by omega) (by have := (h3 (by omega)).1; omega)
    · split
      · split
        · exact think_al h (by omega)
        · exact h
      · split
        · split
          · exact say_al h hn h2
          · exact h
        · split
          · exact h
          · exact move_al h
theorem runS_al {n t : Nat} {y set : Int32} {l : List Ev} (hn : n ≤ 8) (ho : ∀ k, k < l.length → okE n (ge l k)) : ∀ (j k : Nat) (S R : SS), k + j ≤ l.length → Al n S R → Al n (runS n t y set l j k S) (runS n t y set l j k R)
  | 0, _, _, _, _, h => h
  | j + 1, k, S, R, hk, h => runS_al hn ho j (k + 1) _ _ (by omega) (evS_al h hn (ho k (by omega)))
/-- nobody beyond the people has a voice; the law is as the voices are -/
def Inv (n : Nat) (S : SS) : Prop := (∀ p, n ≤ p → p < 8 → S.2.2.1 p = 0) ∧ (S.2.2.2.2 = 0 → S.2.2.2.1 = -9 ∧ least S.2.2.1 = 0)
