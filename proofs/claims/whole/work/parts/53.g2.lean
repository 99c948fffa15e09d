/-! ===== chances ===== -/
def upS (A : Ab) (t d a c wo : Nat) : Nat → Nat
  | 0 => 0
  | k + 1 => if k &&& wo = k ∧ lawD (lawIf A t d true k) then upS A t d a c wo k + a ^ bcnt k * c ^ bcnt (wo ^^^ k) else upS A t d a c wo k
theorem pow9 {a m : Nat} (ha : a ≤ 9) (hm : m ≤ 8) : a ^ m ≤ 43046721 := Nat.le_trans (Nat.pow_le_pow_left ha m) (Nat.le_trans (Nat.pow_le_pow_right (by omega) hm) (by decide))
theorem upS_le {A : Ab} {t d a c wo : Nat} (ha : a ≤ 9) (hc : c ≤ 9) : ∀ k, upS A t d a c wo k ≤ k * 1853020188851841
  | 0 => Nat.zero_le _
  | k + 1 => by
    have ih := @upS_le A t d a c wo ha hc k
    have h1 : a ^ bcnt k * c ^ bcnt (wo ^^^ k) ≤ 43046721 * 43046721 := Nat.mul_le_mul (pow9 ha bcnt_le) (pow9 hc bcnt_le)
    by_cases z : k &&& wo = k ∧ lawD (lawIf A t d true k)
    · rw [upS, if_pos z]
      exact Nat.le_trans (Nat.add_le_add ih h1) (by clear ih h1 z; omega)
    · rw [upS, if_neg z]
      exact Nat.le_trans ih (Nat.mul_le_mul_right _ (Nat.le_succ k))
theorem upS_end {A : Ab} {t d a c wo : Nat} : ∀ j, upS A t d a c wo (wo + 1 + j) = upS A t d a c wo (wo + 1)
  | 0 => rfl
  | j + 1 => by
    rw [← Nat.add_assoc, upS, if_neg (fun z => by have := sub_le z.1; omega), upS_end j]
def woA (A : Ab) (t d : Nat) : Nat := woN (pre A 0 (fst A.2.1.1 d) t).2.1 A.1.length
def upA (A : Ab) (t d a b : Nat) : Nat := upS A t d a (b - a) (woA A t d) (woA A t d + 1)
def loA (A : Ab) (t d b : Nat) : Nat := b ^ bcnt (woA A t d)
abbrev chOk (t d a b w : Int32) : Prop := (0 ≤ t.toInt ∧ t.toInt < 4) ∧ (0 ≤ d.toInt ∧ d.toInt ≤ 99) ∧ ((0 ≤ a.toInt ∧ a.toInt ≤ b.toInt) ∧ (1 ≤ b.toInt ∧ b.toInt ≤ 9)) ∧ (0 ≤ w.toInt ∧ w.toInt ≤ 1)
def chV (A : Ab) (t d a b : Nat) (w : Int32) : Int64 := (if w = 0 then lN (upA A t d a b) else lN (loA A t d b)) / lN (Nat.gcd (upA A t d a b) (loA A t d b))
def S_chance (A : Ab) (t d a b w : Int32) : Int64 := if chOk t d a b w then chV A t.toNatClampNeg d.toNatClampNeg a.toNatClampNeg b.toNatClampNeg w else -1
theorem woA_lt {A : Ab} {t d : Nat} (g : Good A) : woA A t d < 256 ∧ woA A t d < 2 ^ A.1.length := by
  have h1 := @woN_lt (pre A 0 (fst A.2.1.1 d) t).2.1 A.1.length
  have h2 : 2 ^ A.1.length ≤ 2 ^ 8 := Nat.pow_le_pow_right (by omega) g.1.1
  have h3 : woA A t d < 2 ^ A.1.length := h1
  exact ⟨Nat.lt_of_lt_of_le h3 h2, h3⟩
theorem upA_lt {A : Ab} {t d a b : Nat} (g : Good A) (ha : a ≤ b) (hb : b ≤ 9) : upA A t d a b < 2 ^ 62 := by
  have h1 := @upS_le A t d a (b - a) (woA A t d) (by omega) (by omega) (woA A t d + 1)
  have h2 := (woA_lt (t := t) (d := d) g).1
  have h3 : upA A t d a b ≤ (woA A t d + 1) * 1853020188851841 := h1
  have h4 : (woA A t d + 1) * 1853020188851841 ≤ 256 * 1853020188851841 := Nat.mul_le_mul_right _ (by omega)
  omega
theorem loA_lt {A : Ab} {t d b : Nat} (h1 : 1 ≤ b) (h9 : b ≤ 9) : 0 < loA A t d b ∧ loA A t d b < 2 ^ 26 :=
  ⟨Nat.pow_pos h1, by have h : loA A t d b ≤ 43046721 := pow9 h9 bcnt_le
                      omega⟩
theorem C_share {E : EV} {Q : Sg → Int32 → Prop} {σ : Sg} {a b : Int32} (hq : Q σ (bi ((0 ≤ a.toInt ∧ a.toInt ≤ b.toInt) ∧ (1 ≤ b.toInt ∧ b.toInt ≤ 9)))) : MetI E mi_X5_isShare [.int a, .int b] σ Q := by
  have e9 : (9 : Int32).toInt = 9 := by decide
  refine M_X5_isShare ⟨fun h => ?_, fun h => ⟨fun h2 => ?_, fun h2 => ⟨fun h3 => ?_, fun h3 => ⟨fun h4 => ?_, fun h4 => ?_⟩⟩⟩⟩
  all_goals rw [Int32.lt_iff_toInt_lt, iv_0] at h
  · exact q0 hq (by omega)
  all_goals rw [Int32.lt_iff_toInt_lt, iv_1] at h2
  · exact q0 hq (by omega)
  all_goals rw [Int32.lt_iff_toInt_lt, e9] at h3
  · exact q0 hq (by omega)
  all_goals rw [Int32.lt_iff_toInt_lt] at h4
  · exact q0 hq (by omega)
  · exact q1 hq (by omega)
theorem C_chance {E : EV} {Q : Sg → Int64 → Prop} {σ : Sg} {A : Ab} {t d a b w : Int32} (h : RepC σ A) (g : Good A) (hq : ∀ τ, Fr 32 39 σ τ → Q τ (S_chance A t d a b w)) : MetL E mi_X5_chance [.ref 0, .int t, .int d, .int a, .int b, .int w] σ Q := by
  have hP := g.1.1
  have bad : ¬ chOk t d a b w → Q σ (-1) := fun z => by
    have := hq σ Fr.rf
    rw [S_chance, if_neg z] at this
    exact this
  refine M_X5_chance (C_thing ⟨fun r => ?_, fun r => C_day ⟨fun r2 => ?_, fun r2 => C_share ⟨fun r3 => ?_, fun r3 => ⟨fun q => ?_, fun q => ⟨fun q2 => ?_, fun q2 => ?_⟩⟩⟩⟩⟩)
  · rw [bi_0] at r; exact bad (fun z => r z.1)
  · rw [bi_0] at r2; exact bad (fun z => r2 z.2.1)
  · rw [bi_0] at r3; exact bad (fun z => r3 z.2.2.1)
  · rw [Int32.lt_iff_toInt_lt, iv_0] at q; exact bad (fun z => by have := z.2.2.2; omega)
  · rw [bi_n0] at r r2 r3
    rw [Int32.lt_iff_toInt_lt, iv_0] at q
    rw [Int32.le_iff_toInt_le, iv_1] at q2
    have ok : chOk t d a b w := ⟨r, r2, r3, by omega, q2⟩
    obtain ⟨t', ht, rfl, et⟩ := ge0 (x := t) r.1
    obtain ⟨d', hd, rfl, ed⟩ := ge0 (x := d) r2.1
    obtain ⟨a', ha, rfl, ea⟩ := ge0 (x := a) r3.1.1
    obtain ⟨b', hb, rfl, eb⟩ := ge0 (x := b) (by omega)
    have hw := woA_lt (t := t') (d := d') g
    have hup := upA_lt (t := t') (d := d') (a := a') (b := b') g (by omega) (by omega)
    have hlo := @loA_lt A t' d' b' (by omega) (by omega)
    have hval : ∀ τ, Fr 32 39 σ τ → Q τ (chV A t' d' a' b' w) := fun τ f => by
      have := hq τ f
      rw [S_chance, if_pos ok, cl ht, cl hd, cl ha, cl hb] at this
      exact this
    have hG0 : 0 < Nat.gcd (upA A t' d' a' b') (loA A t' d' b') := Nat.gcd_pos_of_pos_right _ hlo.1
    have hG1 : Nat.gcd (upA A t' d' a' b') (loA A t' d' b') ≤ loA A t' d' b' := Nat.gcd_le_right _ hlo.1
    have hf := @fst_le A.2.1.1 d'
    have fin : ∀ τ, Fr 32 39 σ τ → MetI E mi_J6_bitCount_0f7a4 [.int (nI (woA A t' d'))] τ (fun τ2 r3 => MetL E mi_X5_power [.int (nI b'), .int r3] τ2 (fun τ5 r6 => MetL E mi_X5_commonDivisor [.long (lN (upA A t' d' a' b')), .long r6] τ5 (fun τ8 r9 => ((¬ w = 0) → (((lg_cmp r9 (0 : Int64)) ≤ 0) → Q τ8 r6) ∧ ((¬ (lg_cmp r9 (0 : Int64)) ≤ 0) → ¬ r9 = 0 ∧ Q τ8 (r6 / r9))) ∧ ((w = 0) → (((lg_cmp r9 (0 : Int64)) ≤ 0) → Q τ8 (lN (upA A t' d' a' b'))) ∧ ((¬ (lg_cmp r9 (0 : Int64)) ≤ 0) → ¬ r9 = 0 ∧ Q τ8 ((lN (upA A t' d' a' b')) / r9)))))) := by
      intro τ f
      have hres := hval τ f
      refine C_bits hw.1 (C_power (by omega) (by have := @bcnt_le (woA A t' d'); omega) (C_common (b := loA A t' d' b') hup hlo.2 ?_))
      have hn : ¬ lg_cmp (lN (Nat.gcd (upA A t' d' a' b') (loA A t' d' b'))) 0 ≤ 0 := by
        rw [lg_cmp_le, Int64.le_iff_toInt_le, pk_lT (by omega), show (0 : Int64).toInt = 0 from by decide]
        omega
      have hne : ¬ lN (Nat.gcd (upA A t' d' a' b') (loA A t' d' b')) = 0 := fun z => by have := (ln_0 (by omega)).mp z; omega
      refine ⟨fun z => ⟨fun y => absurd y hn, fun _ => ⟨hne, ?_⟩⟩, fun z => ⟨fun y => absurd y hn, fun _ => ⟨hne, ?_⟩⟩⟩
      · rw [chV, if_neg z] at hres; exact hres
      · rw [chV, if_pos z] at hres; exact hres
    have go : ∀ (j k : Nat) (τ : Sg) (S : SS), k + j = woA A t' d' + 1 → Fr 32 39 σ τ → StC τ 32 A.1.length t' (-9) S → Aw A.1.length S (pre A 0 (fst A.2.1.1 d') t') → Zn A.1.length S → K_X5_chance_69 E Q τ (nI t') (nI d') (nI a') (nI b') w (nI (woA A t' d')) (nI (fst A.2.1.1 d')) (lN (upS A t' d' a' (b' - a') (woA A t' d') k)) (nI k) := by
      intro j
      induction j with
      | zero =>
        intro k τ S hk f hS hA hz
        obtain rfl : k = woA A t' d' + 1 := by omega
        exact B_X5_chance_69 ⟨fun _ => fin τ f, fun z => absurd ((nI_ltI (by omega) (by omega)).mpr (Nat.lt_succ_self _)) z⟩
      | succ j ih =>
        intro k τ S hk f hS hA hz
        have next : ∀ υ v, Fr 36 39 τ υ → v = lN (upS A t' d' a' (b' - a') (woA A t' d') (k + 1)) → K_X5_chance_69 E Q υ (nI t') (nI d') (nI a') (nI b') w (nI (woA A t' d')) (nI (fst A.2.1.1 d')) v (nI k + 1) := by
          intro υ v f2 hv
          rw [nI_1, hv]
          exact ih (k + 1) υ S (by omega) (f.tr (f2.mono (by omega) (by omega))) (hS.f32 f2) hA hz
        refine B_X5_chance_69 ⟨fun z => absurd z (fun w => by have := (nI_ltI (by omega) (by omega)).mp w; omega), fun _ => ?_⟩
        rw [sub_iff (by omega) hw.1]
        refine ⟨fun z => next τ _ Fr.rf ?_, fun z => C_isLawIf (b := true) (d := nI d') (h.fr f (by omega)) g (by omega) hf (by omega) hS hA hz LI_pre (fun υ f2 => ⟨fun y => next υ _ f2 ?_, fun y => ?_⟩)⟩
        · rw [upS, if_neg (fun x => z x.1)]
        · have y : ¬ lawD (lawIf A t' d' true k) := bi_0.mp y
          rw [upS, if_neg (fun x => y x.2)]
        · have y : lawD (lawIf A t' d' true k) := bi_n0.mp y
          have hx : woA A t' d' ^^^ k < 256 := Nat.xor_lt_two_pow (n := 8) hw.1 (by omega)
          rw [sub_xor z, pk_sub (by omega)]
          refine C_bits (by omega) (C_power (by omega) (by have := @bcnt_le k; omega) (C_bits hx (C_power (by omega) (by have := @bcnt_le (woA A t' d' ^^^ k); omega) (next υ _ f2 ?_))))
          rw [lN_mul, lN_add, upS, if_pos ⟨z, y⟩]
    refine C_ahead h g (by omega) (by omega) (fun τ S f hS hA hz => C_without hP hS hA.2.1 (C_first (h.2.1.fr f (by omega)) g.2.1 (by omega) ?_))
    exact go (woA A t' d' + 1) 0 τ S (by omega) (f.mono (by omega) (by omega)) hS hA.aw hz
  · rw [Int32.le_iff_toInt_le, iv_1] at q2; exact bad (fun z => q2 z.2.2.2.2)
theorem R_chance {E : EV} {Q : Sg → Int64 → Prop} {σ : Sg} {A : Ab} {t d a b w : Int32} (h : RepM σ A) (g : Good A) (hq : ∀ τ, Fr 40 57 σ τ → RepM τ A → Q τ (S_chance A t d a b w)) : MetL E mi_X6_chance [.ref 40, .int t, .int d, .int a, .int b, .int w] σ Q := by
  have hP := g.1.1
  have e9 : (9 : Int32).toInt = 9 := by decide
  have bad : ¬ chOk t d a b w → Q σ (-1) := fun z => by
    have := hq σ Fr.rf h
    rw [S_chance, if_neg z] at this
    exact this
  refine M_X6_chance (R_thing ⟨fun r => ?_, fun r => R_in ⟨fun r2 => ?_, fun r2 => R_in ⟨fun r3 => ?_, fun r3 => R_in ⟨fun r4 => ?_, fun r4 => R_in ⟨fun r5 => ?_, fun r5 => ?_⟩⟩⟩⟩⟩)
  · rw [bi_0] at r; exact bad (fun z => r z.1)
  · rw [bi_0, iv_0, i99] at r2; exact bad (fun z => r2 z.2.1)
  · rw [bi_0, iv_1, e9] at r3; exact bad (fun z => r3 z.2.2.1.2)
  · rw [bi_0, iv_0] at r4; exact bad (fun z => r4 z.2.2.1.1)
  · rw [bi_n0] at r r2 r3 r4 r5
    rw [iv_0, i99] at r2
    rw [iv_1, e9] at r3
    rw [iv_0] at r4
    rw [iv_0, iv_1] at r5
    have ok : chOk t d a b w := ⟨r, r2, ⟨r4, r3⟩, r5⟩
    obtain ⟨t', ht, rfl, et⟩ := ge0 (x := t) r.1
    obtain ⟨d', hd, rfl, ed⟩ := ge0 (x := d) r2.1
    obtain ⟨a', ha, rfl, ea⟩ := ge0 (x := a) r4.1
    obtain ⟨b', hb, rfl, eb⟩ := ge0 (x := b) (by omega)
    have hw := woA_lt (t := t') (d := d') g
    have hup := upA_lt (t := t') (d := d') (a := a') (b := b') g (by omega) (by omega)
    have hlo := @loA_lt A t' d' b' (by omega) (by omega)
    have hval : ∀ τ, Fr 40 57 σ τ → RepM τ A → Q τ (chV A t' d' a' b' w) := fun τ f hR => by
      have := hq τ f hR
      rw [S_chance, if_pos ok, cl ht, cl hd, cl ha, cl hb] at this
      exact this
    have hG0 : 0 < Nat.gcd (upA A t' d' a' b') (loA A t' d' b') := Nat.gcd_pos_of_pos_right _ hlo.1
    have hG1 : Nat.gcd (upA A t' d' a' b') (loA A t' d' b') ≤ loA A t' d' b' := Nat.gcd_le_right _ hlo.1
    have hne : ¬ lN (Nat.gcd (upA A t' d' a' b') (loA A t' d' b')) = 0 := fun z => by have := (ln_0 (by omega)).mp z; omega
    have h2n : 2 ^ A.1.length ≤ 256 := by
      have : 2 ^ A.1.length ≤ 2 ^ 8 := Nat.pow_le_pow_right (by omega) hP
      exact this
    have hend : upS A t' d' a' (b' - a') (woA A t' d') (2 ^ A.1.length) = upA A t' d' a' b' := by
      have := @upS_end A t' d' a' (b' - a') (woA A t' d') (2 ^ A.1.length - (woA A t' d' + 1))
      rw [show woA A t' d' + 1 + (2 ^ A.1.length - (woA A t' d' + 1)) = 2 ^ A.1.length by omega] at this
      exact this
    have l157 : ∀ (j i k : Nat) (τ : Sg), i + j = A.1.length → k < 256 → k &&& woA A t' d' = k → RepM τ A → (K_X6_chance_116 E Q τ (nI t') (nI d') (nI a') (nI b') w (nI (woA A t' d')) (lN (upS A t' d' a' (b' - a') (woA A t' d') k + prN a' (b' - a') (woA A t' d') k A.1.length)) (lN (loA A t' d' b')) (nI (k + 1))) → K_X6_chance_157 E Q τ (nI t') (nI d') (nI a') (nI b') w (nI (woA A t' d')) (lN (upS A t' d' a' (b' - a') (woA A t' d') k)) (lN (loA A t' d' b')) (nI k) (lN (prN a' (b' - a') (woA A t' d') k i)) (nI i) := by
      intro j
      induction j with
      | zero =>
        intro i k τ hi hk hs hR hn
        obtain rfl : i = A.1.length := by omega
        refine B_X6_chance_157 ⟨fun _ => ?_, fun z => absurd (by rw [hR.1.1]; exact nI_le (Nat.le_refl _) (by omega)) z⟩
        rw [lN_add, nI_1]; exact hn
      | succ j ih =>
        intro i k τ hi hk hs hR hn
        have hh := ih (i + 1) k τ (by omega) hk hs hR hn
        rw [prN] at hh
        refine B_X6_chance_157 ⟨fun z => absurd z (by rw [hR.1.1]; exact nI_ge (by omega) (by omega)), fun _ => ?_⟩
        rw [sh_tab _ hw.1 i (by omega), sh_tab k hk i (by omega), pk_sub (by omega), nI_l (by omega), nI_l (by omega), nI_1, show (1 : Int64) = lN 1 from rfl, lN_mul, lN_mul, lN_mul]
        refine ⟨fun z => ⟨fun y => ?_, fun y => ?_⟩, fun z => ?_⟩
        · have z : woA A t' d' / 2 ^ i % 2 = 1 := by
            rcases (show woA A t' d' / 2 ^ i % 2 = 0 ∨ woA A t' d' / 2 ^ i % 2 = 1 by omega) with x | x
            · exact absurd (by rw [x]; rfl) z
            · exact x
          rw [if_pos z, if_neg (fun x => y (by rw [x]; rfl))] at hh; exact hh
        · have z : woA A t' d' / 2 ^ i % 2 = 1 := by
            rcases (show woA A t' d' / 2 ^ i % 2 = 0 ∨ woA A t' d' / 2 ^ i % 2 = 1 by omega) with x | x
            · exact absurd (by rw [x]; rfl) z
            · exact x
          have y : k / 2 ^ i % 2 = 1 := inj_nI (by omega) (by omega) y
          rw [if_pos z, if_pos y] at hh; exact hh
        · have z : woA A t' d' / 2 ^ i % 2 = 0 := inj_nI (by omega) (by omega) z
          rw [if_neg (by omega)] at hh; exact hh
    have l116 : ∀ (j k : Nat) (τ : Sg), k + j = 2 ^ A.1.length → Fr 40 57 σ τ → RepM τ A → K_X6_chance_116 E Q τ (nI t') (nI d') (nI a') (nI b') w (nI (woA A t' d')) (lN (upS A t' d' a' (b' - a') (woA A t' d') k)) (lN (loA A t' d' b')) (nI k) := by
      intro j
      induction j with
      | zero =>
        intro k τ hk f hR
        obtain rfl : k = 2 ^ A.1.length := by omega
        refine B_X6_chance_116 ?_
        rw [hR.1.1, shl_1 _ (by omega), hend]
        refine ⟨fun _ => R_common hup (by omega) ⟨fun z => ⟨hne, ?_⟩, fun z => ⟨hne, ?_⟩⟩, fun q => absurd (nI_le (Nat.le_refl _) (by omega)) q⟩
        · have := hval τ f hR
          rw [chV, if_neg z] at this; exact this
        · have := hval τ f hR
          rw [chV, if_pos z] at this; exact this
      | succ j ih =>
        intro k τ hk f hR
        have next : ∀ υ v, Fr 40 57 σ υ → RepM υ A → v = lN (upS A t' d' a' (b' - a') (woA A t' d') (k + 1)) → K_X6_chance_116 E Q υ (nI t') (nI d') (nI a') (nI b') w (nI (woA A t' d')) v (lN (loA A t' d' b')) (nI (k + 1)) := by
          intro υ v f2 hR2 hv
          rw [hv]
          exact ih (k + 1) υ (by omega) f2 hR2
        refine B_X6_chance_116 ?_
        rw [hR.1.1, shl_1 _ (by omega), sub_iff (by omega) hw.1, nI_1]
        refine ⟨fun q => absurd q (nI_ge (by omega) (by omega)), fun _ => ⟨fun z => next τ _ f hR ?_, fun z => R_lawBy (b := true) hR g (by omega) (by omega) (by omega) (fun υ f2 hR2 _ => ⟨fun y => next υ _ (f.tr f2) hR2 ?_, fun y => ?_⟩)⟩⟩
        · rw [upS, if_neg (fun x => z x.1)]
        · have y := bi_0.mp y
          rw [upS, if_neg (fun x => y x.2)]
        · have y := bi_n0.mp y
          refine l157 A.1.length 0 k υ (by omega) (by omega) z hR2 (next υ _ (f.tr f2) hR2 ?_)
          have hb8 : ∀ x, x < 2 ^ A.1.length → bsum x A.1.length = bcnt x := by
            intro x hx
            rw [← bsum_8]
            have : ∀ i, bsum x (A.1.length + i) = bsum x A.1.length := by
              intro i
              induction i with
              | zero => rfl
              | succ i ih => rw [← Nat.add_assoc, bsum, ih, Nat.div_eq_of_lt (Nat.lt_of_lt_of_le hx (Nat.pow_le_pow_right (by omega) (by omega))), Nat.zero_mod, Nat.add_zero]
            have := this (8 - A.1.length)
            rw [show A.1.length + (8 - A.1.length) = 8 by omega] at this
            exact this.symm
          rw [prN_pow z, hb8 k (by omega), hb8 _ (Nat.xor_lt_two_pow hw.2 (by omega)), upS, if_pos ⟨z, y⟩]
    have l89 : ∀ (j k : Nat) (τ : Sg), k + j = bcnt (woA A t' d') → Fr 40 57 σ τ → RepM τ A → K_X6_chance_89 E Q τ (nI t') (nI d') (nI a') (nI b') w (nI (woA A t' d')) 0 (lN (b' ^ k)) (nI k) := by
      intro j
      induction j with
      | zero =>
        intro k τ hk f hR
        obtain rfl : k = bcnt (woA A t' d') := by omega
        have := @bcnt_le (woA A t' d')
        exact B_X6_chance_89 (R_bits hw.1 ⟨fun _ => l116 (2 ^ A.1.length) 0 τ (Nat.zero_add _) f hR, fun q => absurd (nI_le (Nat.le_refl _) (by omega)) q⟩)
      | succ j ih =>
        intro k τ hk f hR
        have := @bcnt_le (woA A t' d')
        refine B_X6_chance_89 (R_bits hw.1 ⟨fun q => absurd q (nI_ge (by omega) (by omega)), fun _ => ?_⟩)
        rw [nI_l (by omega), lN_mul, ← Nat.pow_succ, nI_1]
        exact ih (k + 1) τ (by omega) f hR
    refine R_lawBy (m := 0) (b := true) h g (by omega) (by omega) (Nat.two_pow_pos _) (fun τ f hR he => ?_)
    rw [he, hR.1.1, shl_1 _ (by omega), wo_mask hP]
    exact l89 (bcnt (woA A t' d')) 0 τ (Nat.zero_add _) f hR
  · rw [bi_0, iv_0, iv_1] at r5; exact bad (fun z => r5 z.2.2.2)
