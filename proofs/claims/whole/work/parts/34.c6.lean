/-! ===== bits counted ===== -/
def bcnt (m : Nat) : Nat := m % 2 + m / 2 % 2 + m / 4 % 2 + m / 8 % 2 + m / 16 % 2 + m / 32 % 2 + m / 64 % 2 + m / 128 % 2
def jbc (a1 : Int32) : Int32 := ((((((((a1 - (((a1.toUInt32 >>> ((1 : Int32).toUInt32 &&& Int32.toUInt32 31)).toInt32) &&& (1431655765 : Int32))) &&& (858993459 : Int32)) + ((((a1 - (((a1.toUInt32 >>> ((1 : Int32).toUInt32 &&& Int32.toUInt32 31)).toInt32) &&& (1431655765 : Int32))).toUInt32 >>> ((2 : Int32).toUInt32 &&& Int32.toUInt32 31)).toInt32) &&& (858993459 : Int32))) + (((((a1 - (((a1.toUInt32 >>> ((1 : Int32).toUInt32 &&& Int32.toUInt32 31)).toInt32) &&& (1431655765 : Int32))) &&& (858993459 : Int32)) + ((((a1 - (((a1.toUInt32 >>> ((1 : Int32).toUInt32 &&& Int32.toUInt32 31)).toInt32) &&& (1431655765 : Int32))).toUInt32 >>> ((2 : Int32).toUInt32 &&& Int32.toUInt32 31)).toInt32) &&& (858993459 : Int32))).toUInt32 >>> ((4 : Int32).toUInt32 &&& Int32.toUInt32 31)).toInt32)) &&& (252645135 : Int32)) + (((((((a1 - (((a1.toUInt32 >>> ((1 : Int32).toUInt32 &&& Int32.toUInt32 31)).toInt32) &&& (1431655765 : Int32))) &&& (858993459 : Int32)) + ((((a1 - (((a1.toUInt32 >>> ((1 : Int32).toUInt32 &&& Int32.toUInt32 31)).toInt32) &&& (1431655765 : Int32))).toUInt32 >>> ((2 : Int32).toUInt32 &&& Int32.toUInt32 31)).toInt32) &&& (858993459 : Int32))) + (((((a1 - (((a1.toUInt32 >>> ((1 : Int32).toUInt32 &&& Int32.toUInt32 31)).toInt32) &&& (1431655765 : Int32))) &&& (858993459 : Int32)) + ((((a1 - (((a1.toUInt32 >>> ((1 : Int32).toUInt32 &&& Int32.toUInt32 31)).toInt32) &&& (1431655765 : Int32))).toUInt32 >>> ((2 : Int32).toUInt32 &&& Int32.toUInt32 31)).toInt32) &&& (858993459 : Int32))).toUInt32 >>> ((4 : Int32).toUInt32 &&& Int32.toUInt32 31)).toInt32)) &&& (252645135 : Int32)).toUInt32 >>> ((8 : Int32).toUInt32 &&& Int32.toUInt32 31)).toInt32)) + ((((((((a1 - (((a1.toUInt32 >>> ((1 : Int32).toUInt32 &&& Int32.toUInt32 31)).toInt32) &&& (1431655765 : Int32))) &&& (858993459 : Int32)) + ((((a1 - (((a1.toUInt32 >>> ((1 : Int32).toUInt32 &&& Int32.toUInt32 31)).toInt32) &&& (1431655765 : Int32))).toUInt32 >>> ((2 : Int32).toUInt32 &&& Int32.toUInt32 31)).toInt32) &&& (858993459 : Int32))) + (((((a1 - (((a1.toUInt32 >>> ((1 : Int32).toUInt32 &&& Int32.toUInt32 31)).toInt32) &&& (1431655765 : Int32))) &&& (858993459 : Int32)) + ((((a1 - (((a1.toUInt32 >>> ((1 : Int32).toUInt32 &&& Int32.toUInt32 31)).toInt32) &&& (1431655765 : Int32))).toUInt32 >>> ((2 : Int32).toUInt32 &&& Int32.toUInt32 31)).toInt32) &&& (858993459 : Int32))).toUInt32 >>> ((4 : Int32).toUInt32 &&& Int32.toUInt32 31)).toInt32)) &&& (252645135 : Int32)) + (((((((a1 - (((a1.toUInt32 >>> ((1 : Int32).toUInt32 &&& Int32.toUInt32 31)).toInt32) &&& (1431655765 : Int32))) &&& (858993459 : Int32)) + ((((a1 - (((a1.toUInt32 >>> ((1 : Int32).toUInt32 &&& Int32.toUInt32 31)).toInt32) &&& (1431655765 : Int32))).toUInt32 >>> ((2 : Int32).toUInt32 &&& Int32.toUInt32 31)).toInt32) &&& (858993459 : Int32))) + (((((a1 - (((a1.toUInt32 >>> ((1 : Int32).toUInt32 &&& Int32.toUInt32 31)).toInt32) &&& (1431655765 : Int32))) &&& (858993459 : Int32)) + ((((a1 - (((a1.toUInt32 >>> ((1 : Int32).toUInt32 &&& Int32.toUInt32 31)).toInt32) &&& (1431655765 : Int32))).toUInt32 >>> ((2 : Int32).toUInt32 &&& Int32.toUInt32 31)).toInt32) &&& (858993459 : Int32))).toUInt32 >>> ((4 : Int32).toUInt32 &&& Int32.toUInt32 31)).toInt32)) &&& (252645135 : Int32)).toUInt32 >>> ((8 : Int32).toUInt32 &&& Int32.toUInt32 31)).toInt32)).toUInt32 >>> ((16 : Int32).toUInt32 &&& Int32.toUInt32 31)).toInt32)) &&& (63 : Int32))
theorem jbc_tab : ∀ m, m < 256 → jbc (nI m) = nI (bcnt m) := by decide +kernel
theorem C_bits {E : EV} {Q : Sg → Int32 → Prop} {σ : Sg} {m : Nat} (hm : m < 256) (hq : Q σ (nI (bcnt m))) : MetI E mi_J6_bitCount_0f7a4 [.int (nI m)] σ Q :=
  M_J6_bitCount_0f7a4 (by
    rw [← jbc_tab m hm] at hq
    exact hq)
theorem bcnt_le {m : Nat} : bcnt m ≤ 8 := by rw [bcnt]; omega
theorem bcnt_6 {m : Nat} (h : m < 64) : bcnt m ≤ 6 := by rw [bcnt]; omega
/-! ===== in a plain story those from whom one has it are people ===== -/
def Ms (S : SS) : Prop := ∀ p, p < 8 → ∃ m, m < 256 ∧ S.2.1 p = nI m
theorem or_nI (a b : Nat) : nI a ||| nI b = nI (a ||| b) := by
  apply Int32.toBitVec_inj.mp
  show BitVec.ofNat 32 a ||| BitVec.ofNat 32 b = BitVec.ofNat 32 (a ||| b)
  apply BitVec.eq_of_getLsbD_eq
  intro i hi
  simp only [BitVec.getLsbD_or, BitVec.getLsbD_ofNat, hi, decide_true, Bool.true_and, Nat.testBit_or]
theorem one_nI : ∀ p, p < 8 → one p = nI (2 ^ p) := by decide +kernel
theorem Ms.or {x y : Int32} (hx : ∃ m, m < 256 ∧ x = nI m) (hy : ∃ m, m < 256 ∧ y = nI m) : ∃ m, m < 256 ∧ x ||| y = nI m := by
  obtain ⟨a, ha, rfl⟩ := hx
  obtain ⟨b, hb, rfl⟩ := hy
  exact ⟨a ||| b, Nat.or_lt_two_pow (n := 8) ha hb, or_nI a b⟩
theorem Ms.up {S : SS} {k : Nat} {v : Int32} (h : Ms S) (hv : ∃ m, m < 256 ∧ v = nI m) : ∀ p, p < 8 → ∃ m, m < 256 ∧ upd S.2.1 k v p = nI m := by
  intro p hp
  by_cases e : p = k
  · subst e; rw [upd_s]; exact hv
  · rw [upd_n e]; exact h p hp
theorem Ms_think {p : Nat} {S : SS} (h : Ms S) (hp : p < 8) : Ms (think p S) := by
  rw [think]; split
  · exact h.up ⟨2 ^ p, (by decide : ∀ p, p < 8 → 2 ^ p < 256) p hp, one_nI p hp⟩
  · exact h
theorem Ms_speak {p : Nat} {d : Int32} {S : SS} (h : Ms S) : Ms (speak p d S) := by
  rw [speak]; split
  · split <;> exact h
  · exact h
theorem Ms_hear {n p : Nat} {S : SS} (h : Ms S) (hp : p < 8) : Ms (hear n p S) := by
  intro q hq
  show ∃ m, m < 256 ∧ (if q < n ∧ S.1 q = S.1 p then S.2.1 q ||| S.2.1 p else S.2.1 q) = nI m
  split
  · exact Ms.or (h q hq) (h p hp)
  · exact h q hq
theorem Ms_talk {a b : Nat} {S : SS} (h : Ms S) (ha : a < 8) (hb : b < 8) : Ms (talk a b S) := h.up (Ms.or (h b hb) (h a ha))
theorem Ms_ev {n t : Nat} {y m : Int32} {e : Ev} {S : SS} (h : Ms S) (hn : n ≤ 8) (he : okE n e) : Ms (evS n t y m e S) := by
  obtain ⟨h1, h2, h3, h4⟩ := he
  rw [evS]
  split
  · exact Ms_talk h (by omega) (by have := (h3 (by omega)).1; omega)
  · split
    · split
      · exact h
      · exact Ms_talk h (by omega) (by have := (h3 (by omega)).1; omega)
    · split
      · split
        · exact Ms_think h (by omega)
        · exact h
      · split
        · split
          · exact Ms_hear (Ms_speak (Ms_think h (by omega))) (by omega)
          · exact h
        · split <;> exact h
theorem Ms_run {n t : Nat} {y set : Int32} {l : List Ev} (hn : n ≤ 8) (ho : ∀ k, k < l.length → okE n (ge l k)) : ∀ (j k : Nat) (S : SS), k + j ≤ l.length → Ms S → Ms (runS n t y set l j k S)
  | 0, _, _, _, h => h
  | j + 1, k, S, hk, h => Ms_run hn ho j (k + 1) _ (by omega) (Ms_ev h hn (ho k (by omega)))
theorem Ms_init {P : List Nat} : Ms (init P) := fun _ _ => ⟨0, by omega, rfl⟩
theorem Ms_tale {A : Ab} {t : Nat} {set : Int32} (g : Good A) : Ms (tale A t set) := Ms_run g.1.1 (fun k hk => ev_ge g.2.1 hk) _ _ _ (by omega) Ms_init
/-! ===== the class: one story's answers ===== -/
def S_origins (A : Ab) (p t set : Int32) : Int32 := if (0 ≤ p.toInt ∧ p.toInt < (A.1.length : Int)) ∧ (0 ≤ t.toInt ∧ t.toInt < 4) then (tale A t.toNatClampNeg set).2.1 p.toNatClampNeg else -1
def noneIf (v : Int32) : Int32 := if v = 0 then -9 else v
def S_voice (A : Ab) (p t set : Int32) : Int32 := if (0 ≤ p.toInt ∧ p.toInt < (A.1.length : Int)) ∧ (0 ≤ t.toInt ∧ t.toInt < 4) then noneIf ((tale A t.toNatClampNeg set).2.2.1 p.toNatClampNeg) else -1
def lawAns (S : SS) (w : Int32) : Int32 := if S.2.2.2.2 = 0 then -9 else if w = 0 then S.2.2.2.1 else S.2.2.2.2
def S_law (A : Ab) (t set w : Int32) : Int32 := if (0 ≤ t.toInt ∧ t.toInt < 4) ∧ (0 ≤ w.toInt ∧ w.toInt ≤ 1) then lawAns (tale A t.toNatClampNeg set) w else -1
def S_place (A : Ab) (p : Int32) : Int32 := if 0 ≤ p.toInt ∧ p.toInt < (A.1.length : Int) then (tale A 0 0).1 p.toNatClampNeg else -1
theorem C_origins {E : EV} {Q : Sg → Int32 → Prop} {σ : Sg} {A : Ab} {p t set : Int32} (h : RepC σ A) (g : Good A) (hq : ∀ τ, Fr 36 39 σ τ → Q τ (S_origins A p t set)) : MetI E mi_X5_origins [.ref 0, .int p, .int t, .int set] σ Q := by
  have hP := g.1.1
  refine M_X5_origins (C_knows_3 h.1.1 hP ⟨fun r => ?_, fun r => C_thing ⟨fun r2 => ?_, fun r2 => ?_⟩⟩)
  · rw [bi_0] at r
    have := hq σ Fr.rf
    rw [S_origins, if_neg (fun z => r z.1)] at this
    exact this
  · rw [bi_n0] at r r2
    obtain ⟨p', hp, rfl, ep⟩ := ge0 (x := p) r.1
    obtain ⟨t', ht, rfl, et⟩ := ge0 (x := t) r2.1
    refine C_tell h g (by omega) (fun τ S f hS hA => ⟨vpn (by omega) (by omega), ?_⟩)
    have := hq τ f
    rw [S_origins, if_pos ⟨r, r2⟩, cl hp, cl ht] at this
    rw [cl hp, show gm τ 38 = S.2.1 from hS.2.2.1, hA.2.1 p' (by omega)]
    exact this
  · rw [bi_0] at r2
    have := hq σ Fr.rf
    rw [S_origins, if_neg (fun z => r2 z.2)] at this
    exact this
theorem C_voice {E : EV} {Q : Sg → Int32 → Prop} {σ : Sg} {A : Ab} {p t set : Int32} (h : RepC σ A) (g : Good A) (hq : ∀ τ, Fr 36 39 σ τ → Q τ (S_voice A p t set)) : MetI E mi_X5_voice [.ref 0, .int p, .int t, .int set] σ Q := by
  have hP := g.1.1
  refine M_X5_voice (C_knows_3 h.1.1 hP ⟨fun r => ?_, fun r => C_thing ⟨fun r2 => ?_, fun r2 => ?_⟩⟩)
  · rw [bi_0] at r
    have := hq σ Fr.rf
    rw [S_voice, if_neg (fun z => r z.1)] at this
    exact this
  · rw [bi_n0] at r r2
    obtain ⟨p', hp, rfl, ep⟩ := ge0 (x := p) r.1
    obtain ⟨t', ht, rfl, et⟩ := ge0 (x := t) r2.1
    refine C_tell h g (by omega) (fun τ S f hS hA => ⟨vpn (by omega) (by omega), ?_⟩)
    have := hq τ f
    rw [S_voice, if_pos ⟨r, r2⟩, cl hp, cl ht] at this
    rw [cl hp, show gm τ 39 = S.2.2.1 from hS.2.2.2.1, hA.2.2.1 p' (by omega)]
    exact ⟨fun q => by rw [noneIf, if_neg q] at this; exact this, fun q => by rw [noneIf, if_pos q] at this; exact this⟩
  · rw [bi_0] at r2
    have := hq σ Fr.rf
    rw [S_voice, if_neg (fun z => r2 z.2)] at this
    exact this
theorem C_law {E : EV} {Q : Sg → Int32 → Prop} {σ : Sg} {A : Ab} {t set w : Int32} (h : RepC σ A) (g : Good A) (hq : ∀ τ, Fr 36 39 σ τ → Q τ (S_law A t set w)) : MetI E mi_X5_law [.ref 0, .int t, .int set, .int w] σ Q := by
  have bad : ¬ ((0 ≤ t.toInt ∧ t.toInt < 4) ∧ (0 ≤ w.toInt ∧ w.toInt ≤ 1)) → Q σ (-1) := fun z => by
    have := hq σ Fr.rf
    rw [S_law, if_neg z] at this
    exact this
  refine M_X5_law (C_thing ⟨fun r => ?_, fun r => ⟨fun q => ?_, fun q => ⟨fun q2 => ?_, fun q2 => ?_⟩⟩⟩)
  · rw [bi_0] at r; exact bad (fun z => r z.1)
  · simp only [Int32.lt_iff_toInt_lt, Int32.le_iff_toInt_le, ← Int32.toInt_inj, iv_m9, iv_m3, iv_m2, iv_m1, iv_0, iv_1, iv_2, iv_3, iv_4, iv_5, iv_6, iv_7, iv_8, iv_9, iv_32, iv_40, iv_99, iv_100, iv_400] at q; exact bad (by omega)
  · rw [bi_n0] at r
    simp only [Int32.lt_iff_toInt_lt, Int32.le_iff_toInt_le, ← Int32.toInt_inj, iv_m9, iv_m3, iv_m2, iv_m1, iv_0, iv_1, iv_2, iv_3, iv_4, iv_5, iv_6, iv_7, iv_8, iv_9, iv_32, iv_40, iv_99, iv_100, iv_400] at q q2
    obtain ⟨t', ht, rfl, et⟩ := ge0 (x := t) r.1
    refine C_tell h g (by omega) (fun τ S f hS hA => ?_)
    have := hq τ f
    rw [S_law, if_pos ⟨r, by omega⟩, cl ht] at this
    have e3 : gi τ 3607 = (tale A t' set).2.2.2.2 := by rw [← hA.2.2.2]; exact hS.2.2.2.2.2
    have e4 : gi τ 3606 = (tale A t' set).2.2.2.1 := by rw [← hA.2.2.2]; exact hS.2.2.2.2.1
    rw [e3, e4]
    exact ⟨fun q3 => ⟨fun q4 => by rw [lawAns, if_neg q3, if_neg q4] at this; exact this, fun q4 => by rw [lawAns, if_neg q3, if_pos q4] at this; exact this⟩, fun q3 => by rw [lawAns, if_pos q3] at this; exact this⟩
  · simp only [Int32.lt_iff_toInt_lt, Int32.le_iff_toInt_le, ← Int32.toInt_inj, iv_m9, iv_m3, iv_m2, iv_m1, iv_0, iv_1, iv_2, iv_3, iv_4, iv_5, iv_6, iv_7, iv_8, iv_9, iv_32, iv_40, iv_99, iv_100, iv_400] at q q2; exact bad (by omega)
theorem C_place {E : EV} {Q : Sg → Int32 → Prop} {σ : Sg} {A : Ab} {p : Int32} (h : RepC σ A) (g : Good A) (hq : ∀ τ, Fr 36 39 σ τ → Q τ (S_place A p)) : MetI E mi_X5_place [.ref 0, .int p] σ Q := by
  have hP := g.1.1
  refine M_X5_place (C_knows_3 h.1.1 hP ⟨fun r => ?_, fun r => ?_⟩)
  · rw [bi_n0] at r
    obtain ⟨p', hp, rfl, ep⟩ := ge0 (x := p) r.1
    refine C_tell (t := 0) h g (by omega) (fun τ S f hS hA => ⟨vpn (by omega) (by omega), ?_⟩)
    have := hq τ f
    rw [S_place, if_pos r, cl hp] at this
    rw [cl hp, show gm τ 37 = S.1 from hS.2.1, hA.1 p' (by omega)]
    exact this
  · rw [bi_0] at r
    have := hq σ Fr.rf
    rw [S_place, if_neg r] at this
    exact this
/-! ===== the class: all stories ===== -/
def isLaw (A : Ab) (t : Nat) (set : Int32) : Prop := ¬ (tale A t set).2.2.2.2 = 0
abbrev isLawD (A : Ab) (t : Nat) (set : Int32) : Prop := ¬ (tale A t set).2.2.2.2 = 0
theorem C_isLaw {E : EV} {Q : Sg → Int32 → Prop} {σ : Sg} {A : Ab} {t : Nat} {set : Int32} (h : RepC σ A) (g : Good A) (ht : t < 4) (hq : ∀ τ, Fr 36 39 σ τ → Q τ (bi (isLawD A t set))) : MetI E mi_X5_isLawWith [.ref 0, .int (nI t), .int set] σ Q := by
  refine M_X5_isLawWith (C_tell h g ht (fun τ S f hS hA => ?_))
  have e3 : gi τ 3607 = (tale A t set).2.2.2.2 := by rw [← hA.2.2.2]; exact hS.2.2.2.2.2
  rw [e3]
  exact ⟨fun q => q0 (hq τ f) (fun z => z q), fun q => q1 (hq τ f) q⟩
/-- the first of those with the fewest bits *)-/
def few (P : Nat → Bool) : Nat → Option Nat
  | 0 => none
  | k + 1 => match few P k with
    | none => if P k = true then some k else none
    | some b => if bcnt k < bcnt b ∧ P k = true then some k else some b
def fewR : Option Nat → Int32
  | none => -9
  | some b => nI b
theorem few_lt {P : Nat → Bool} : ∀ {k b : Nat}, few P k = some b → b < k
  | 0, b, h => by cases h
  | k + 1, b, h => by
    rw [few] at h
    cases hf : few P k with
    | none =>
      rw [hf] at h
      dsimp only at h
      split at h
      · cases h; omega
      · cases h
    | some c =>
      rw [hf] at h
      dsimp only at h
      have := few_lt hf
      split at h <;> cases h <;> omega
/-- what the class holds as 'fewest': above all there are, if there is none yet -/
def fewN (M : Nat) : Option Nat → Nat
  | none => M + 1
  | some b => bcnt b
def fallP (A : Ab) (t : Nat) (k : Nat) : Bool := !decide (isLawD A t (nI k))
theorem few_step {P : Nat → Bool} {k M : Nat} (hk : bcnt k ≤ M) : few P (k + 1) = if bcnt k < fewN M (few P k) ∧ P k = true then some k else few P k := by
  rw [few]
  cases few P k with
  | none =>
    show (if P k = true then some k else none) = if bcnt k < fewN M none ∧ P k = true then some k else none
    have hl : bcnt k < fewN M none := Nat.lt_succ_of_le hk
    by_cases h : P k = true
    · rw [if_pos h, if_pos ⟨hl, h⟩]
    · rw [if_neg h, if_neg (fun z => h z.2)]
  | some b => rfl
theorem shl_1 : ∀ m, m ≤ 8 → (1 : Int32) <<< (nI m &&& 31) = nI (2 ^ m) := by decide +kernel
theorem C_fewest {E : EV} {Q : Sg → Int32 → Prop} {σ : Sg} {A : Ab} {t : Nat} (h : RepC σ A) (g : Good A) (ht : t < 4) (hq : ∀ τ, Fr 36 39 σ τ → Q τ (fewR (few (fallP A t) (2 ^ mc A.2.1.1)))) : MetI E mi_X5_fewestAgainst [.ref 0, .int (nI t)] σ Q := by
  have hM := g.2.1.2.1
  have hp : 2 ^ mc A.2.1.1 ≤ 64 := by
    have : 2 ^ mc A.2.1.1 ≤ 2 ^ 6 := Nat.pow_le_pow_right (by omega) hM
    exact this
  have go : ∀ (j k : Nat) (τ : Sg), k + j = 2 ^ mc A.2.1.1 → Fr 36 39 σ τ → K_X5_fewestAgainst_20 E Q τ (nI t) (fewR (few (fallP A t) k)) (nI (fewN 6 (few (fallP A t) k))) (nI (2 ^ mc A.2.1.1)) (nI k) := by
    intro j
    induction j with
    | zero =>
      intro k τ hk f
      obtain rfl : k = 2 ^ mc A.2.1.1 := by omega
      exact B_X5_fewestAgainst_20 ⟨fun _ => hq τ f, fun q => absurd (nI_le (Nat.le_refl _) (by omega)) q⟩
    | succ j ih =>
      intro k τ hk f
      have hb6 := bcnt_6 (m := k) (by omega)
      have hn : fewN 6 (few (fallP A t) k) ≤ 7 := by
        cases hf : few (fallP A t) k with
        | none => exact Nat.le_refl 7
        | some b => have := bcnt_6 (m := b) (by have := few_lt hf; omega); exact Nat.le_trans this (by omega)
      have next : ∀ υ, Fr 36 39 σ υ → ∀ o, few (fallP A t) (k + 1) = o → K_X5_fewestAgainst_20 E Q υ (nI t) (fewR o) (nI (fewN 6 o)) (nI (2 ^ mc A.2.1.1)) (nI k + 1) := fun υ f2 o ho => by
        rw [nI_1, ← ho]; exact ih (k + 1) υ (by omega) f2
      refine B_X5_fewestAgainst_20 ⟨fun q => absurd q (nI_ge (by omega) (by omega)), fun _ => C_bits (by omega) ⟨fun q => ?_, fun q => ?_⟩⟩
      · refine next τ f _ ?_
        have := (nI_leI (by omega) (by omega)).mp q
        rw [few_step hb6, if_neg (fun z => by omega)]
      · have hlt : bcnt k < fewN 6 (few (fallP A t) k) := by
          rcases Nat.lt_or_ge (bcnt k) (fewN 6 (few (fallP A t) k)) with z | z
          · exact z
          · exact absurd (nI_le z (by omega)) q
        refine C_isLaw (h.fr f (by omega)) g ht (fun υ f2 => ⟨fun r => ?_, fun r => C_bits (by omega) ?_⟩)
        · rw [bi_n0] at r
          refine next υ (f.tr f2) _ ?_
          rw [few_step hb6, if_neg (fun z => ?_)]
          have := z.2
          rw [fallP, Bool.not_eq_true', decide_eq_false_iff_not] at this
          exact this r
        · rw [bi_0] at r
          refine next υ (f.tr f2) (some k) ?_
          rw [few_step hb6, if_pos ⟨hlt, by rw [fallP, Bool.not_eq_true', decide_eq_false_iff_not]; exact r⟩]
  refine M_X5_fewestAgainst ?_
  rw [show gi σ 506 = nI (mc A.2.1.1) from h.2.1.2.1, shl_1 _ (by omega)]
  exact go (2 ^ mc A.2.1.1) 0 σ (by omega) Fr.rf
def S_falls (A : Ab) (t : Int32) : Int32 := if 0 ≤ t.toInt ∧ t.toInt < 4 then fewR (few (fallP A t.toNatClampNeg) (2 ^ mc A.2.1.1)) else -1
def S_stands (A : Ab) (t : Int32) : Int32 := if 0 ≤ t.toInt ∧ t.toInt < 4 then bi (fewR (few (fallP A t.toNatClampNeg) (2 ^ mc A.2.1.1)) = -9) else -1
theorem C_falls {E : EV} {Q : Sg → Int32 → Prop} {σ : Sg} {A : Ab} {t : Int32} (h : RepC σ A) (g : Good A) (hq : ∀ τ, Fr 36 39 σ τ → Q τ (S_falls A t)) : MetI E mi_X5_falls [.ref 0, .int t] σ Q := by
  refine M_X5_falls (C_thing ⟨fun r => ?_, fun r => ?_⟩)
  · rw [bi_n0] at r
    obtain ⟨t', ht, rfl, et⟩ := ge0 (x := t) r.1
    refine C_fewest h g (by omega) (fun τ f => ?_)
    have := hq τ f
    rw [S_falls, if_pos r, cl ht] at this
    exact this
  · rw [bi_0] at r
    have := hq σ Fr.rf
    rw [S_falls, if_neg r] at this
    exact this
theorem C_stands {E : EV} {Q : Sg → Int32 → Prop} {σ : Sg} {A : Ab} {t : Int32} (h : RepC σ A) (g : Good A) (hq : ∀ τ, Fr 36 39 σ τ → Q τ (S_stands A t)) : MetI E mi_X5_stands [.ref 0, .int t] σ Q := by
  refine M_X5_stands (C_thing ⟨fun r => ?_, fun r => ?_⟩)
  · rw [bi_n0] at r
    obtain ⟨t', ht, rfl, et⟩ := ge0 (x := t) r.1
    refine C_fewest h g (by omega) (fun τ f => ?_)
    have := hq τ f
    rw [S_stands, if_pos r, cl ht] at this
    exact ⟨fun q => q0 this q, fun q => q1 this q⟩
  · rw [bi_0] at r
    have := hq σ Fr.rf
    rw [S_stands, if_neg r] at this
    exact this
/-- of the first k maybe ones those by each of which alone it is no law -/
def aloneB (A : Ab) (t : Nat) : Nat → Int32
  | 0 => 0
  | k + 1 => if isLawD A t (one k) then aloneB A t k else aloneB A t k ||| one k
def S_alone (A : Ab) (t : Int32) : Int32 := if 0 ≤ t.toInt ∧ t.toInt < 4 then (if isLawD A t.toNatClampNeg 0 then aloneB A t.toNatClampNeg (mc A.2.1.1) else 0) else -1
theorem C_alone {E : EV} {Q : Sg → Int32 → Prop} {σ : Sg} {A : Ab} {t : Int32} (h : RepC σ A) (g : Good A) (hq : ∀ τ, Fr 36 39 σ τ → Q τ (S_alone A t)) : MetI E mi_X5_alone [.ref 0, .int t] σ Q := by
  have hM := g.2.1.2.1
  refine M_X5_alone (C_thing ⟨fun r => ?_, fun r => ?_⟩)
  · rw [bi_n0] at r
    obtain ⟨t', ht, rfl, et⟩ := ge0 (x := t) r.1
    have hs : S_alone A (nI t') = if isLawD A t' 0 then aloneB A t' (mc A.2.1.1) else 0 := by rw [S_alone, if_pos r, cl ht]
    have go : ∀ (j k : Nat) (τ : Sg), k + j = mc A.2.1.1 → isLawD A t' 0 → Fr 36 39 σ τ → K_X5_alone_24 E Q τ (nI t') (aloneB A t' k) (nI k) := by
      intro j
      induction j with
      | zero =>
        intro k τ hk h0 f
        obtain rfl : k = mc A.2.1.1 := by omega
        have e : gi τ 506 = nI (mc A.2.1.1) := (h.2.1.fr f (by omega)).2.1
        refine B_X5_alone_24 ⟨fun _ => ?_, fun q => absurd (by rw [e]; exact nI_le (Nat.le_refl _) (by omega)) q⟩
        have := hq τ f
        rw [hs, if_pos h0] at this
        exact this
      | succ j ih =>
        intro k τ hk h0 f
        have e : gi τ 506 = nI (mc A.2.1.1) := (h.2.1.fr f (by omega)).2.1
        refine B_X5_alone_24 ⟨fun q => absurd q (by rw [e]; exact nI_ge (by omega) (by omega)), fun _ => C_isLaw (h.fr f (by omega)) g (by omega) (fun υ f2 => ⟨fun q => ?_, fun q => ?_⟩)⟩
        · rw [bi_n0] at q
          have q : isLawD A t' (one k) := q
          have := ih (k + 1) υ (by omega) h0 (f.tr f2)
          rw [aloneB, if_pos q] at this
          rw [nI_1]; exact this
        · rw [bi_0] at q
          have q : ¬ isLawD A t' (one k) := q
          have := ih (k + 1) υ (by omega) h0 (f.tr f2)
          rw [aloneB, if_neg q] at this
          rw [nI_1]; exact this
    refine C_isLaw h g (by omega) (fun τ f => ⟨fun q => ?_, fun q => ?_⟩)
    · rw [bi_n0] at q; exact go (mc A.2.1.1) 0 τ (by omega) q f
    · rw [bi_0] at q
      have := hq τ f
      rw [hs, if_neg q] at this
      exact this
  · rw [bi_0] at r
    have := hq σ Fr.rf
    rw [S_alone, if_neg r] at this
    exact this
