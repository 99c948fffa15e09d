/-! ===== what both programs hold: PEOPLE, EVENTS with TODAY, THE TEXT, IMAGES, THE TRACE ===== -/
abbrev Tl : Type := List Ev × Nat
abbrev Ab : Type := List Nat × Tl × List Nat × Option Tl × Option Tl × Int64
def okE (n : Nat) (e : Ev) : Prop := e.1 ≤ 4 ∧ e.2.2.1 < n ∧ (e.1 ≤ 1 → e.2.2.2 < n ∧ e.2.2.2 ≠ e.2.2.1) ∧ (2 ≤ e.1 → e.2.2.2 < 4)
def okTl (n : Nat) (t : Tl) : Prop := t.1.length ≤ 40 ∧ mc t.1 ≤ 6 ∧ t.2 ≤ 99 ∧ (∀ k, k < t.1.length → okE n (ge t.1 k)) ∧ (∀ j k, j ≤ k → k < t.1.length → (ge t.1 j).2.1 ≤ (ge t.1 k).2.1) ∧ ∀ k, k < t.1.length → (ge t.1 k).2.1 ≤ t.2
def okP (P : List Nat) : Prop := P.length ≤ 8 ∧ ∀ k, k < P.length → gd P k < 4
def okX (X : List Nat) : Prop := X.length ≤ 400 ∧ ∀ k, k < X.length → gd X k < 256
def Good (A : Ab) : Prop := okP A.1 ∧ okTl A.1.length A.2.1 ∧ okX A.2.2.1 ∧ (∀ u, A.2.2.2.1 = some u → okTl A.1.length u) ∧ ∀ u, A.2.2.2.2.1 = some u → okTl A.1.length u
/-- the bit of a MAYBE one, by their order; 0 of all others -/
def mb (l : List Ev) (k : Nat) : Int32 := if (ge l k).1 = 1 then (1 : Int32) <<< (nI (mc (l.take k)) &&& 31) else 0
/-! the class -/
def EvC (σ : Sg) (o : Nat) (t : Tl) : Prop := gi σ (100 * o + 5) = nI t.1.length ∧ gi σ (100 * o + 6) = nI (mc t.1) ∧ gi σ (100 * o + 7) = nI t.2 ∧
  ∀ k, k < t.1.length → gm σ (o + 1) k = nI (ge t.1 k).1 ∧ gm σ (o + 2) k = nI (ge t.1 k).2.1 ∧ gm σ (o + 3) k = nI (ge t.1 k).2.2.1 ∧ gm σ (o + 4) k = nI (ge t.1 k).2.2.2 ∧ gm σ (o + 5) k = mb t.1 k
def FoC (σ : Sg) (o : Nat) (P : List Nat) : Prop := gi σ (100 * o + 1) = nI P.length ∧ ∀ k, k < P.length → gm σ (o + 1) k = nI (gd P k)
def TxC (σ : Sg) (X : List Nat) : Prop := gi σ 101 = nI X.length ∧ ∀ k, k < X.length → gm σ 2 k = nI (gd X k)
def ImC (σ : Sg) (k o : Nat) : Option Tl → Prop
  | none => gi σ k = 0
  | some u => gi σ k = 1 ∧ EvC σ o u
def RepC (σ : Sg) (A : Ab) : Prop := FoC σ 3 A.1 ∧ EvC σ 5 A.2.1 ∧ TxC σ A.2.2.1 ∧ ImC σ 6 20 A.2.2.2.1 ∧ ImC σ 7 26 A.2.2.2.2.1 ∧ gl σ 10 = A.2.2.2.2.2
/-! the reference -/
def EvM (σ : Sg) (r : Nat) (t : Tl) : Prop := gm σ 44 r = nI t.1.length ∧ gm σ 45 r = nI t.2 ∧
  ∀ k, k < t.1.length → gm σ 46 (40 * r + k) = nI (ge t.1 k).1 ∧ gm σ 47 (40 * r + k) = nI (ge t.1 k).2.1 ∧ gm σ 48 (40 * r + k) = nI (ge t.1 k).2.2.1 ∧ gm σ 49 (40 * r + k) = nI (ge t.1 k).2.2.2
def FoM (σ : Sg) (P : List Nat) : Prop := gm σ 42 0 = nI P.length ∧ ∀ k, k < P.length → gm σ 43 k = nI (gd P k)
def TxM (σ : Sg) (X : List Nat) : Prop := gi σ 4002 = nI X.length ∧ ∀ k, k < X.length → gm σ 41 k &&& 255 = nI (gd X k)
def ImM (σ : Sg) (i : Nat) : Option Tl → Prop
  | none => gm σ 50 i = 0
  | some u => gm σ 50 i = 1 ∧ EvM σ (2 + i) u
/-- the thing that tries are about is one -/
def TI (σ : Sg) : Prop := ∃ t, t < 4 ∧ gi σ 4025 = nI t
def RepM (σ : Sg) (A : Ab) : Prop := FoM σ A.1 ∧ EvM σ 0 A.2.1 ∧ TxM σ A.2.2.1 ∧ ImM σ 0 A.2.2.2.1 ∧ ImM σ 1 A.2.2.2.2.1 ∧ gl σ 4000 = A.2.2.2.2.2 ∧ TI σ
/-! frames -/
theorem EvC.fr {lo hi o : Nat} {σ τ : Sg} {t : Tl} (h : EvC σ o t) (f : Fr lo hi σ τ) (q : o + 5 < lo ∨ hi < o) : EvC τ o t := by
  obtain ⟨h1, h2, h3, h4⟩ := h
  refine ⟨by rw [f.gi (by omega)]; exact h1, by rw [f.gi (by omega)]; exact h2, by rw [f.gi (by omega)]; exact h3, fun k hk => ?_⟩
  rw [f.gm (by omega), f.gm (by omega), f.gm (by omega), f.gm (by omega), f.gm (by omega)]
  exact h4 k hk
theorem FoC.fr {lo hi o : Nat} {σ τ : Sg} {P : List Nat} (h : FoC σ o P) (f : Fr lo hi σ τ) (q : o + 1 < lo ∨ hi < o) : FoC τ o P := by
  refine ⟨by rw [f.gi (by omega)]; exact h.1, fun k hk => ?_⟩
  rw [f.gm (by omega)]
  exact h.2 k hk
theorem TxC.fr {lo hi : Nat} {σ τ : Sg} {X : List Nat} (h : TxC σ X) (f : Fr lo hi σ τ) (q : 2 < lo) : TxC τ X := by
  refine ⟨by rw [f.gi (by omega)]; exact h.1, fun k hk => ?_⟩
  rw [f.gm (by omega)]
  exact h.2 k hk
theorem ImC.fr {lo hi k o : Nat} {σ τ : Sg} {u : Option Tl} (h : ImC σ k o u) (f : Fr lo hi σ τ) (q : o + 5 < lo ∨ hi < o) (q2 : k / 100 < lo ∨ hi < k / 100) : ImC τ k o u := by
  cases u with
  | none => show gi τ k = 0; rw [f.gi q2]; exact h
  | some u => exact ⟨by rw [f.gi q2]; exact h.1, h.2.fr f q⟩
theorem RepC.fr {lo hi : Nat} {σ τ : Sg} {A : Ab} (h : RepC σ A) (f : Fr lo hi σ τ) (q : 31 < lo ∨ (10 < lo ∧ hi < 20)) : RepC τ A := by
  obtain ⟨h1, h2, h3, h4, h5, h6⟩ := h
  exact ⟨h1.fr f (by omega), h2.fr f (by omega), h3.fr f (by omega), h4.fr f (by omega) (by omega), h5.fr f (by omega) (by omega), by rw [f.gl (by omega)]; exact h6⟩
theorem EvM.fr {lo hi r : Nat} {σ τ : Sg} {t : Tl} (h : EvM σ r t) (f : Fr lo hi σ τ) (q : 50 < lo ∨ hi < 40) : EvM τ r t := by
  obtain ⟨h1, h2, h3⟩ := h
  refine ⟨by rw [f.gm (by omega)]; exact h1, by rw [f.gm (by omega)]; exact h2, fun k hk => ?_⟩
  rw [f.gm (by omega), f.gm (by omega), f.gm (by omega), f.gm (by omega)]
  exact h3 k hk
theorem ImM.fr {lo hi i : Nat} {σ τ : Sg} {u : Option Tl} (h : ImM σ i u) (f : Fr lo hi σ τ) (q : 50 < lo ∨ hi < 40) : ImM τ i u := by
  cases u with
  | none => show gm τ 50 i = 0; rw [f.gm (by omega)]; exact h
  | some u => exact ⟨by rw [f.gm (by omega)]; exact h.1, h.2.fr f q⟩
theorem RepM.fr {lo hi : Nat} {σ τ : Sg} {A : Ab} (h : RepM σ A) (f : Fr lo hi σ τ) (q : 50 < lo ∨ hi < 40) : RepM τ A := by
  obtain ⟨⟨h1, h1b⟩, h2, ⟨h3, h3b⟩, h4, h5, h6⟩ := h
  refine ⟨⟨by rw [f.gm (by omega)]; exact h1, fun k hk => by rw [f.gm (by omega)]; exact h1b k hk⟩, h2.fr f q, ⟨by rw [f.gi (by omega)]; exact h3, fun k hk => by rw [f.gm (by omega)]; exact h3b k hk⟩, h4.fr f q, h5.fr f q, by rw [f.gl (by omega)]; exact h6.1, by rw [TI, f.gi (by omega)]; exact h6.2⟩
theorem EvC.gi5 {σ : Sg} {t : Tl} (h : EvC σ 5 t) : gi σ 505 = nI t.1.length ∧ gi σ 506 = nI (mc t.1) ∧ gi σ 507 = nI t.2 := ⟨h.1, h.2.1, h.2.2.1⟩
/-! ===== the calls on the state: the answer and what is held then ===== -/
def withT (A : Ab) (t : Tl) : Ab := (A.1, t, A.2.2)
def S_event (A : Ab) (k w : Int32) : Int32 :=
  if 0 ≤ k.toInt ∧ k.toInt < A.2.1.1.length then
    (if w.toInt = 0 then nI (ge A.2.1.1 k.toNatClampNeg).1 else if w.toInt = 1 then nI (ge A.2.1.1 k.toNatClampNeg).2.1 else if w.toInt = 2 then nI (ge A.2.1.1 k.toNatClampNeg).2.2.1 else if w.toInt = 3 then nI (ge A.2.1.1 k.toNatClampNeg).2.2.2 else -1)
  else -1
abbrev comOk (n : Nat) (s a b : Int32) : Prop := (0 ≤ s.toInt ∧ s.toInt ≤ 4) ∧ (0 ≤ a.toInt ∧ a.toInt < n) ∧ (s.toInt ≤ 1 → (0 ≤ b.toInt ∧ b.toInt < n) ∧ b.toInt ≠ a.toInt) ∧ (2 ≤ s.toInt → 0 ≤ b.toInt ∧ b.toInt < 4)

def S_comes (A : Ab) (s a b : Int32) : Int32 × Ab :=
  if comOk A.1.length s a b then
    (if A.2.1.1.length = 40 ∨ (s.toInt = 1 ∧ mc A.2.1.1 = 6) then (-3, A)
    else (nI (A.2.1.1.length + 1), withT A (A.2.1.1 ++ [(s.toNatClampNeg, A.2.1.2, a.toNatClampNeg, b.toNatClampNeg)], A.2.1.2)))
  else (-1, A)
def S_days (A : Ab) (n : Int32) : Int32 × Ab :=
  if 1 ≤ n.toInt ∧ n.toInt ≤ 99 then (if A.2.1.2 + n.toNatClampNeg ≤ 99 then (nI (A.2.1.2 + n.toNatClampNeg), withT A (A.2.1.1, A.2.1.2 + n.toNatClampNeg)) else (-2, A)) else (-1, A)
def S_undo (A : Ab) : Int32 × Ab := if A.2.1.1.length = 0 then (-2, A) else (nI (A.2.1.1.length - 1), withT A (A.2.1.1.take (A.2.1.1.length - 1), A.2.1.2))
def S_keep (A : Ab) (i : Int32) : Int32 × Ab :=
  if i.toInt = 0 then (nI A.2.1.1.length, (A.1, A.2.1, A.2.2.1, some A.2.1, A.2.2.2.2.1, A.2.2.2.2.2))
  else if i.toInt = 1 then (nI A.2.1.1.length, (A.1, A.2.1, A.2.2.1, A.2.2.2.1, some A.2.1, A.2.2.2.2.2)) else (-1, A)
def S_backI (A : Ab) : Option Tl → Int32 × Ab
  | none => (-2, A)
  | some u => (nI u.1.length, withT A u)
def S_back (A : Ab) (i : Int32) : Int32 × Ab :=
  if i.toInt = 0 then S_backI A A.2.2.2.1 else if i.toInt = 1 then S_backI A A.2.2.2.2.1 else (-1, A)
def S_count (A : Ab) (w : Int32) : Int32 :=
  if w.toInt = 0 then nI A.1.length else if w.toInt = 1 then nI A.2.1.1.length else if w.toInt = 2 then nI (mc A.2.1.1) else if w.toInt = 3 then nI A.2.1.2 else if w.toInt = 4 then nI A.2.2.1.length else -1
/-- the j-th byte of a long, from the lowest -/
def bt (v : Int64) (j : Nat) : Nat := (((v >>> (((8 : Int32) * nI j).toInt64 &&& 63)).toInt32) &&& (255 : Int32)).toNatClampNeg
def bts (v : Int64) : Nat → List Nat
  | 0 => []
  | k + 1 => bt v k :: bts v k
def withX (A : Ab) (X : List Nat) : Ab := (A.1, A.2.1, X, A.2.2.2)
def S_type (A : Ab) (v : Int64) (n : Int32) : Int32 × Ab :=
  if 1 ≤ n.toInt ∧ n.toInt ≤ 8 then (if A.2.2.1.length + n.toNatClampNeg ≤ 400 then (nI (A.2.2.1.length + n.toNatClampNeg), withX A (A.2.2.1 ++ bts v n.toNatClampNeg)) else (-3, A)) else (-1, A)
def S_clear (A : Ab) : Int32 × Ab := (nI A.2.2.1.length, withX A [])
