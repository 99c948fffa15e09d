/-! ===== plain facts ===== -/
theorem iv_m9 : (-9 : Int32).toInt = -9 := by decide
theorem iv_m3 : (-3 : Int32).toInt = -3 := by decide
theorem iv_m2 : (-2 : Int32).toInt = -2 := by decide
theorem iv_m1 : (-1 : Int32).toInt = -1 := by decide
theorem iv_0 : (0 : Int32).toInt = 0 := by decide
theorem iv_1 : (1 : Int32).toInt = 1 := by decide
theorem iv_2 : (2 : Int32).toInt = 2 := by decide
theorem iv_3 : (3 : Int32).toInt = 3 := by decide
theorem iv_4 : (4 : Int32).toInt = 4 := by decide
theorem iv_5 : (5 : Int32).toInt = 5 := by decide
theorem iv_6 : (6 : Int32).toInt = 6 := by decide
theorem iv_7 : (7 : Int32).toInt = 7 := by decide
theorem iv_8 : (8 : Int32).toInt = 8 := by decide
theorem iv_9 : (9 : Int32).toInt = 9 := by decide
theorem iv_32 : (32 : Int32).toInt = 32 := by decide
theorem iv_40 : (40 : Int32).toInt = 40 := by decide
theorem iv_99 : (99 : Int32).toInt = 99 := by decide
theorem iv_100 : (100 : Int32).toInt = 100 := by decide
theorem iv_400 : (400 : Int32).toInt = 400 := by decide
/-- a truth as the programs answer it -/
def bi (P : Prop) [Decidable P] : Int32 := if P then 1 else 0
theorem bi_t {P : Prop} [Decidable P] (h : P) : bi P = 1 := if_pos h
theorem bi_f {P : Prop} [Decidable P] (h : ¬ P) : bi P = 0 := if_neg h
theorem bi_0 {P : Prop} [Decidable P] : bi P = 0 ↔ ¬ P := by
  by_cases h : P
  · rw [bi_t h]; exact ⟨fun e => absurd e (by decide), fun e => absurd h e⟩
  · rw [bi_f h]; exact ⟨fun _ => h, fun _ => rfl⟩
theorem bi_n0 {P : Prop} [Decidable P] : ¬ bi P = 0 ↔ P := by rw [bi_0, Decidable.not_not]
theorem bi_01 {P : Prop} [Decidable P] : bi P = 0 ∨ bi P = 1 := by
  by_cases h : P
  · exact Or.inr (bi_t h)
  · exact Or.inl (bi_f h)
theorem q1 {P : Prop} [Decidable P] {Q : Int32 → Prop} (hq : Q (bi P)) (h : P) : Q 1 := by rw [bi_t h] at hq; exact hq
theorem q0 {P : Prop} [Decidable P] {Q : Int32 → Prop} (hq : Q (bi P)) (h : ¬ P) : Q 0 := by rw [bi_f h] at hq; exact hq
theorem bi_c {P R : Prop} [Decidable P] [Decidable R] (h : P ↔ R) : bi P = bi R := by
  by_cases hp : P
  · rw [bi_t hp, bi_t (h.mp hp)]
  · rw [bi_f hp, bi_f (fun q => hp (h.mpr q))]
/-- an int that isn't below 0 is a number -/
theorem ge0 {x : Int32} (h : 0 ≤ x.toInt) : ∃ n : Nat, n < 2 ^ 31 ∧ x = nI n ∧ x.toInt = n := by
  obtain ⟨j, h1, h2⟩ := nI_of (x := x) (by rw [Int32.lt_iff_toInt_lt, iv_0]; omega)
  exact ⟨j, h1, h2, by rw [h2, nI_toInt h1]⟩
theorem nIt {n : Nat} (h : n < 2 ^ 31) : (nI n).toInt = (n : Int) := nI_toInt h
theorem inj_nI {a b : Nat} (ha : a < 2 ^ 31) (hb : b < 2 ^ 31) (h : nI a = nI b) : a = b := (nI_eq ha hb).mp h
/-! ===== stores ===== -/
theorem gi_si {σ : Sg} {k j : Nat} {v : Int32} : gi (si σ k v) j = if j = k then v else gi σ j := rfl
theorem gi_si_s {σ : Sg} {k : Nat} {v : Int32} : gi (si σ k v) k = v := if_pos rfl
theorem gi_si_n {σ : Sg} {k j : Nat} {v : Int32} (h : j ≠ k) : gi (si σ k v) j = gi σ j := if_neg h
theorem gi_sl {σ : Sg} {k j : Nat} {v : Int64} : gi (sl σ k v) j = gi σ j := rfl
theorem gi_sa {σ : Sg} {a j : Nat} {f : Nat → Int32} : gi (sa σ a f) j = gi σ j := rfl
theorem gi_sm {σ : Sg} {a i j : Nat} {v : Int32} : gi (sm σ a i v) j = gi σ j := rfl
theorem gl_si {σ : Sg} {k j : Nat} {v : Int32} : gl (si σ k v) j = gl σ j := rfl
theorem gl_sl {σ : Sg} {k j : Nat} {v : Int64} : gl (sl σ k v) j = if j = k then v else gl σ j := rfl
theorem gl_sa {σ : Sg} {a j : Nat} {f : Nat → Int32} : gl (sa σ a f) j = gl σ j := rfl
theorem gl_sm {σ : Sg} {a i j : Nat} {v : Int32} : gl (sm σ a i v) j = gl σ j := rfl
theorem gm_si {σ : Sg} {k a : Nat} {v : Int32} : gm (si σ k v) a = gm σ a := rfl
theorem gm_sl {σ : Sg} {k a : Nat} {v : Int64} : gm (sl σ k v) a = gm σ a := rfl
theorem gm_sa {σ : Sg} {a b : Nat} {f : Nat → Int32} : gm (sa σ a f) b = if b = a then f else gm σ b := rfl
theorem gm_sa_s {σ : Sg} {a : Nat} {f : Nat → Int32} : gm (sa σ a f) a = f := if_pos rfl
theorem gm_sa_n {σ : Sg} {a b : Nat} {f : Nat → Int32} (h : b ≠ a) : gm (sa σ a f) b = gm σ b := if_neg h
theorem gm_sm_s {σ : Sg} {a i : Nat} {v : Int32} : gm (sm σ a i v) a = upd (gm σ a) i v := if_pos rfl
theorem gm_sm_n {σ : Sg} {a b i : Nat} {v : Int32} (h : b ≠ a) : gm (sm σ a i v) b = gm σ b := if_neg h
theorem upd_s {f : Nat → Int32} {k : Nat} {x : Int32} : upd f k x k = x := if_pos rfl
theorem upd_n {f : Nat → Int32} {k j : Nat} {x : Int32} (h : j ≠ k) : upd f k x j = f j := if_neg h
/-- outside the places lo .. hi nothing has changed -/
def Fr (lo hi : Nat) (σ τ : Sg) : Prop := (∀ k, (k / 100 < lo ∨ hi < k / 100) → gi τ k = gi σ k) ∧ (∀ k, (k / 100 < lo ∨ hi < k / 100) → gl τ k = gl σ k) ∧ ∀ a, (a < lo ∨ hi < a) → gm τ a = gm σ a
theorem Fr.rf {lo hi : Nat} {σ : Sg} : Fr lo hi σ σ := ⟨fun _ _ => rfl, fun _ _ => rfl, fun _ _ => rfl⟩
theorem Fr.tr {lo hi : Nat} {σ τ υ : Sg} (h1 : Fr lo hi σ τ) (h2 : Fr lo hi τ υ) : Fr lo hi σ υ := ⟨fun k h => (h2.1 k h).trans (h1.1 k h), fun k h => (h2.2.1 k h).trans (h1.2.1 k h), fun k h => (h2.2.2 k h).trans (h1.2.2 k h)⟩
theorem Fr.mono {lo hi lo2 hi2 : Nat} {σ τ : Sg} (h : Fr lo hi σ τ) (h1 : lo2 ≤ lo) (h2 : hi ≤ hi2) : Fr lo2 hi2 σ τ := ⟨fun k q => h.1 k (by omega), fun k q => h.2.1 k (by omega), fun k q => h.2.2 k (by omega)⟩
theorem Fr.si {lo hi k : Nat} {v : Int32} {σ τ : Sg} (h : Fr lo hi σ τ) (h1 : lo ≤ k / 100) (h2 : k / 100 ≤ hi) : Fr lo hi σ (si τ k v) := ⟨fun j q => by rw [gi_si_n (by rintro rfl; omega)]; exact h.1 j q, fun j q => h.2.1 j q, fun a q => h.2.2 a q⟩
theorem Fr.sl {lo hi k : Nat} {v : Int64} {σ τ : Sg} (h : Fr lo hi σ τ) (h1 : lo ≤ k / 100) (h2 : k / 100 ≤ hi) : Fr lo hi σ (sl τ k v) := ⟨fun j q => h.1 j q, fun j q => by rw [gl_sl, if_neg (by rintro rfl; omega)]; exact h.2.1 j q, fun a q => h.2.2 a q⟩
theorem Fr.sa {lo hi a : Nat} {f : Nat → Int32} {σ τ : Sg} (h : Fr lo hi σ τ) (h1 : lo ≤ a) (h2 : a ≤ hi) : Fr lo hi σ (sa τ a f) := ⟨fun j q => h.1 j q, fun j q => h.2.1 j q, fun b q => by rw [gm_sa_n (by rintro rfl; omega)]; exact h.2.2 b q⟩
theorem Fr.sm {lo hi a i : Nat} {v : Int32} {σ τ : Sg} (h : Fr lo hi σ τ) (h1 : lo ≤ a) (h2 : a ≤ hi) : Fr lo hi σ (sm τ a i v) := h.sa h1 h2
theorem Fr.gi {lo hi k : Nat} {σ τ : Sg} (h : Fr lo hi σ τ) (q : k / 100 < lo ∨ hi < k / 100) : gi τ k = gi σ k := h.1 k q
theorem Fr.gl {lo hi k : Nat} {σ τ : Sg} (h : Fr lo hi σ τ) (q : k / 100 < lo ∨ hi < k / 100) : gl τ k = gl σ k := h.2.1 k q
theorem Fr.gm {lo hi a : Nat} {σ τ : Sg} (h : Fr lo hi σ τ) (q : a < lo ∨ hi < a) : gm τ a = gm σ a := h.2.2 a q
/-! ===== lists, with a default ===== -/
abbrev Ev : Type := Nat × Nat × Nat × Nat
def gd (l : List Nat) (k : Nat) : Nat := l.getD k 0
def ge (l : List Ev) (k : Nat) : Ev := l.getD k (0, 0, 0, 0)
theorem gd_app {l m : List Nat} {k : Nat} (h : k < l.length) : gd (l ++ m) k = gd l k := by simp [gd, List.getD, List.getElem?_append_left h]
theorem gd_last {l : List Nat} {x : Nat} : gd (l ++ [x]) l.length = x := by simp [gd, List.getD]
theorem ge_app {l m : List Ev} {k : Nat} (h : k < l.length) : ge (l ++ m) k = ge l k := by simp [ge, List.getD, List.getElem?_append_left h]
theorem ge_last {l : List Ev} {x : Ev} : ge (l ++ [x]) l.length = x := by simp [ge, List.getD]
theorem ge_get {l : List Ev} {k : Nat} (h : k < l.length) : ge l k = l[k] := by simp [ge, List.getD, List.getElem?_eq_getElem h]
theorem gd_get {l : List Nat} {k : Nat} (h : k < l.length) : gd l k = l[k] := by simp [gd, List.getD, List.getElem?_eq_getElem h]
theorem ge_mem {l : List Ev} {k : Nat} (h : k < l.length) : ge l k ∈ l := by rw [ge_get h]; exact List.getElem_mem h
theorem gd_mem {l : List Nat} {k : Nat} (h : k < l.length) : gd l k ∈ l := by rw [gd_get h]; exact List.getElem_mem h
theorem ge_take {l : List Ev} {k m : Nat} (h : k < m) : ge (l.take m) k = ge l k := by simp [ge, List.getD, List.getElem?_take, h]
theorem vpn {n N : Nat} (h : n < N) (hN : N < 2 ^ 31) : vp_in (nI n) N := vp_in_nI h hN
theorem cl {n : Nat} (h : n < 2 ^ 31) : (nI n).toNatClampNeg = n := nI_clamp h
/-! ===== how many maybe ones ===== -/
def mc (l : List Ev) : Nat := l.countP (fun e => e.1 == 1)
theorem mc_nil : mc [] = 0 := rfl
theorem mc_app {l m : List Ev} : mc (l ++ m) = mc l + mc m := List.countP_append ..
theorem mc_cons {e : Ev} {l : List Ev} : mc (e :: l) = mc l + (if e.1 = 1 then 1 else 0) := by
  rw [mc, List.countP_cons]
  by_cases h : e.1 = 1
  · simp [h, mc]
  · simp [h, mc]
theorem mc_one {e : Ev} : mc [e] = if e.1 = 1 then 1 else 0 := by rw [mc_cons, mc_nil, Nat.zero_add]
theorem mc_le {l : List Ev} : mc l ≤ l.length := List.countP_le_length
theorem mc_take {l : List Ev} {k : Nat} : mc (l.take k) ≤ mc l := by
  have h : mc (l.take k ++ l.drop k) = mc (l.take k) + mc (l.drop k) := mc_app
  rw [List.take_append_drop] at h
  omega
theorem take_step {l : List Ev} {k : Nat} (h : k < l.length) : l.take (k + 1) = l.take k ++ [ge l k] := by
  rw [ge_get h, List.take_succ_eq_append_getElem h]
theorem mc_step {l : List Ev} {k : Nat} (h : k < l.length) : mc (l.take (k + 1)) = mc (l.take k) + (if (ge l k).1 = 1 then 1 else 0) := by
  rw [take_step h, mc_app, mc_one]
