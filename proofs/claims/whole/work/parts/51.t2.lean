/-! ===== the reference: by turns ===== -/
theorem nar_bI : ∀ b, vp_nar .boolean (bI b) = bI b := by decide
def Xc (b : Nat) (d : Int32) (S : SS) : Nat → Nat → SS
  | 0, _ => S
  | j + 1, c => actOne d (bE j, c % b) (Xc b d S j (c / b))
theorem Xc_actN {b : Nat} {d : Int32} {S : SS} : ∀ (M code : Nat), actN d (fun i => (bE i, code / b ^ (M - 1 - i) % b)) M 0 S = Xc b d S M code
  | 0, _ => rfl
  | M + 1, code => by
    rw [actN_snoc, Xc, ← Xc_actN M (code / b)]
    rw [Nat.zero_add, show M + 1 - 1 - M = 0 by omega, Nat.pow_zero, Nat.div_one]
    congr 1
    refine actN_cg M 0 S (fun i _ h2 => ?_)
    rw [show M + 1 - 1 - i = (M - 1 - i) + 1 by omega, Nat.pow_succ, Nat.mul_comm, ← Nat.div_div_eq_div_mul]
theorem Xc_step {b : Nat} {d : Int32} {S : SS} {j c e : Nat} (he : e < b) : Xc b d S (j + 1) (b * c + e) = actOne d (bE j, e) (Xc b d S j c) := by
  have h1 : (b * c + e) % b = e := by rw [Nat.mul_add_mod, Nat.mod_eq_of_lt he]
  have h2 : (b * c + e) / b = c := by rw [Nat.mul_add_div (by omega), Nat.div_eq_of_lt he, Nat.add_zero]
  rw [Xc, h1, h2]
theorem LI_Xc {b : Nat} {d : Int32} {S : SS} (h : LI S) : ∀ (j c : Nat), LI (Xc b d S j c)
  | 0, _ => h
  | j + 1, c => LI_one (LI_Xc h j (c / b))
theorem pow_b {b M : Nat} (h0 : 0 < b) (h9 : b ≤ 9) (hM : M ≤ 4) : b ^ M ≤ 6561 :=
  Nat.le_trans (Nat.pow_le_pow_left h9 M) (Nat.le_trans (Nat.pow_le_pow_right (by omega) hM) (by decide))
theorem sgn_av : ∀ e, e < 9 → (-1 : Int32) * nI e = av (false, e) ∧ (1 : Int32) * nI e = av (true, e) := by decide +kernel
theorem R_lawTurns {E : EV} {Q : Sg → Int32 → Prop} {σ : Sg} {A : Ab} {t d n code : Nat} (h : RepM σ A) (g : Good A) (ht : t < 4) (hd : d ≤ 99) (hn : n ≤ 2) (hc : code < (A.1.length + 1) ^ (2 * n)) (hq : ∀ τ, Fx [4022, 4024, 4025, 4026, 4027, 4029] 51 56 σ τ → RepM τ A → Q τ (bI (mmx A t (fst A.2.1.1 d) (nI d) 0 (Xc (A.1.length + 1) (nI d) (pre A 0 (fst A.2.1.1 d) t) (2 * n) code)))) : MetI E mi_X6_isLawByTurns [.ref 40, .int (nI t), .int (nI d), .int (nI n), .int (nI code)] σ Q := by
  have hP := g.1.1
  have hpw := pow_b (b := A.1.length + 1) (M := 2 * n) (by omega) (by omega) (by omega)
  have go : ∀ (i : Nat) (τ : Sg), i ≤ 2 * n → Fx [4022, 4024, 4025, 4026, 4027, 4029] 51 56 σ τ → gi τ 4025 = nI t → gi τ 4026 = nI d → gi τ 4024 = nI (2 * n) → gi τ 4027 = -9 → (∀ x, i ≤ x → x < 2 * n → gm τ 56 x = av (bE x, code / (A.1.length + 1) ^ (2 * n - 1 - x) % (A.1.length + 1))) → K_X6_isLawByTurns_33 E Q τ (nI t) (nI d) (nI n) (nI code) (nI (code / (A.1.length + 1) ^ (2 * n - i))) (nI i - 1) := by
    intro i
    induction i with
    | zero =>
      intro τ hi f e25 e26 e24 e27 h56
      have hR := h.fxT f (by simp) (by omega) ⟨t, ht, e25⟩
      refine B_X6_isLawByTurns_33 ⟨fun _ => ?_, fun z => absurd (by decide) z⟩
      refine R_goX (th := t) (m := 2 * n) (d := d) (y := -9) (w := gi τ 4028) (ac := fun x => (bE x, code / (A.1.length + 1) ^ (2 * n - 1 - x) % (A.1.length + 1))) hR g ht (by omega) hd (fun i _ => by have := Nat.mod_lt (code / (A.1.length + 1) ^ (2 * n - 1 - i)) (show 0 < A.1.length + 1 by omega); show _ % _ ≤ 8; omega) (Or.inl rfl) ⟨⟨fun _ => e25, e26⟩, ⟨e24, fun x hx => h56 x (by omega) hx⟩, e27, rfl⟩ (fun υ f2 hR2 _ hA => ⟨vpn (by omega) (by omega), ?_⟩)
      have hres := hq υ (f.tr (f2.mono (by intro k hk; simp at hk ⊢; omega) (by omega) (by omega))) hR2
      have e : goT A 0 t (nI d) (2 * n) (fun x => (bE x, code / (A.1.length + 1) ^ (2 * n - 1 - x) % (A.1.length + 1))) (-9) (gi τ 4028) (fst A.2.1.1 d) t = rest A t (fst A.2.1.1 d) (Xc (A.1.length + 1) (nI d) (pre A 0 (fst A.2.1.1 d) t) (2 * n) code) := by
        rw [goT, stayS, if_pos rfl, if_pos rfl, Xc_actN]; rfl
      have hs := (hA t ht).2.2.2
      rw [e] at hs
      rw [cl (by omega)]
      rw [mmx] at hres
      rcases hs with z | z
      · rw [decide_eq_false (show ¬ lawD _ from fun w => w z.1)] at hres
        exact ⟨fun _ => hres, fun q => absurd z.2.2.1 q⟩
      · rw [decide_eq_true (show lawD _ from z.1)] at hres
        exact ⟨fun q => absurd (z.2.1.symm.trans q) z.2.2.1, fun _ => hres⟩
    | succ i ih =>
      intro τ hi f e25 e26 e24 e27 h56
      have hR := h.fxT f (by simp) (by omega) ⟨t, ht, e25⟩
      have hx : code / (A.1.length + 1) ^ (2 * n - (i + 1)) ≤ code := Nat.div_le_self _ _
      have hm := Nat.mod_lt (code / (A.1.length + 1) ^ (2 * n - (i + 1))) (show 0 < A.1.length + 1 by omega)
      have hpar := par_tab i (by omega)
      obtain ⟨s1, s2⟩ := sgn_av (code / (A.1.length + 1) ^ (2 * n - (i + 1)) % (A.1.length + 1)) (by omega)
      have hdv : code / (A.1.length + 1) ^ (2 * n - (i + 1)) / (A.1.length + 1) = code / (A.1.length + 1) ^ (2 * n - i) := by
        rw [Nat.div_div_eq_div_mul, ← Nat.pow_succ, show (2 * n - (i + 1)).succ = 2 * n - i by omega]
      have hne : ¬ nI (A.1.length + 1) = 0 := nI_ne0 (by omega) (by omega)
      have next : ∀ v, v = av (bE i, code / (A.1.length + 1) ^ (2 * n - (i + 1)) % (A.1.length + 1)) → K_X6_isLawByTurns_33 E Q (sm τ 56 i v) (nI t) (nI d) (nI n) (nI code) (nI (code / (A.1.length + 1) ^ (2 * n - i))) (nI i + -1) := by
        intro v hv
        rw [← Int32.sub_eq_add_neg]
        refine ih _ (by omega) (f.sm (by omega) (by omega)) e25 e26 e24 e27 (fun x h1 h2 => ?_)
        show upd (gm τ 56) i v x = _
        by_cases z : x = i
        · subst z; rw [upd_s, hv, show 2 * n - 1 - x = 2 * n - (x + 1) by omega]
        · rw [upd_n z]; exact h56 x (by omega) h2
      rw [nI_pred]
      refine B_X6_isLawByTurns_33 ⟨fun z => absurd z (nI_pos (by omega)), fun _ => ?_⟩
      rw [hR.1.1, nI_1, pk_rem (by omega) (by omega) (by omega), pk_div (by omega) (by omega) (by omega), hdv, cl (by omega), s1, s2]
      refine ⟨fun z => ⟨hne, vpn (by omega) (by omega), hne, next _ ?_⟩, fun z => ⟨hne, vpn (by omega) (by omega), hne, next _ ?_⟩⟩
      all_goals rw [hpar] at z
      · rw [Bool.not_eq_true] at z; rw [z]
      · rw [z]
  refine M_X6_isLawByTurns (M_X6_plain ?_)
  have hh := go (2 * n) (si (si (si (si (si (si σ 4024 0) 4026 100) 4027 (-9)) 4025 (nI t)) 4026 (nI d)) 4024 (nI (2 * n))) (Nat.le_refl _) ((((((Fx.rf.si (by simp)).si (by simp)).si (by simp)).si (by simp)).si (by simp)).si (by simp)) rfl rfl rfl rfl (fun x h1 h2 => absurd h2 (by omega))
  rw [Nat.sub_self, Nat.pow_zero, Nat.div_one] at hh
  rw [show (2 : Int32) * nI n = nI (2 * n) from by rw [show (2 : Int32) = nI 2 from rfl, pk_mul]]
  exact hh
def anyL (P : Nat → Bool) : Nat → Bool
  | 0 => false
  | k + 1 => anyL P k || P k
def allL (P : Nat → Bool) : Nat → Bool
  | 0 => true
  | k + 1 => allL P k && P k
theorem anyL_N {P : Nat → Bool} : ∀ k, anyL P (k + 1) = (anyN (fun c => P c == true) k == true)
  | 0 => by rw [anyL, anyL, anyN]; cases P 0 <;> rfl
  | k + 1 => by rw [anyL, anyL_N k, anyN]; cases P (k + 1) <;> cases anyN (fun c => P c == true) k <;> rfl
theorem allL_N {P : Nat → Bool} : ∀ k, allL P (k + 1) = (anyN (fun c => P c == false) k == false)
  | 0 => by rw [allL, allL, anyN]; cases P 0 <;> rfl
  | k + 1 => by rw [allL, allL_N k, anyN]; cases P (k + 1) <;> cases anyN (fun c => P c == false) k <;> rfl
theorem R_turns {E : EV} {Q : Sg → Int32 → Prop} {σ : Sg} {A : Ab} {t d n : Int32} (h : RepM σ A) (g : Good A) (hq : ∀ τ, Fr 40 57 σ τ → RepM τ A → Q τ (S_turns A t d n)) : MetI E mi_X6_turns [.ref 40, .int t, .int d, .int n] σ Q := by
  have e2 : (2 : Int32).toInt = 2 := by decide
  have hP := g.1.1
  have bad : ¬ ((0 ≤ t.toInt ∧ t.toInt < 4) ∧ (0 ≤ d.toInt ∧ d.toInt ≤ 99) ∧ (1 ≤ n.toInt ∧ n.toInt ≤ 2)) → Q σ (-1) := fun z => by
    have := hq σ Fr.rf h
    rw [S_turns, if_neg z] at this
    exact this
  refine M_X6_turns (R_thing ⟨fun r => ?_, fun r => R_in ⟨fun r2 => ?_, fun r2 => R_in ⟨fun r3 => ?_, fun r3 => ?_⟩⟩⟩)
  · rw [bi_0] at r; exact bad (fun z => r z.1)
  · rw [bi_0, iv_0, i99] at r2; exact bad (fun z => r2 z.2.1)
  · rw [bi_n0] at r r2 r3
    rw [iv_0, i99] at r2
    rw [iv_1, e2] at r3
    have ok : (0 ≤ t.toInt ∧ t.toInt < 4) ∧ (0 ≤ d.toInt ∧ d.toInt ≤ 99) ∧ (1 ≤ n.toInt ∧ n.toInt ≤ 2) := ⟨r, r2, r3⟩
    obtain ⟨t', ht, rfl, et⟩ := ge0 (x := t) r.1
    obtain ⟨d', hd, rfl, ed⟩ := ge0 (x := d) r2.1
    obtain ⟨n', hn, rfl, en⟩ := ge0 (x := n) (by omega)
    have hS : S_turns A (nI t') (nI d') (nI n') = bI (mmx A t' (fst A.2.1.1 d') (nI d') (2 * n') (pre A 0 (fst A.2.1.1 d') t')) := by rw [S_turns, if_pos ok, cl ht, cl hd, cl hn]
    rw [hS] at hq
    rw [h.1.1, nI_1]
    have h2n : (2 : Int32) * nI n' = nI (2 * n') := by rw [show (2 : Int32) = nI 2 from rfl, pk_mul]
    generalize hM : 2 * n' = M at hq h2n
    have hM4 : M ≤ 4 := by omega
    have hMe : M % 2 = 0 := by omega
    have hb0 : 0 < A.1.length + 1 := by omega
    have hb9 : A.1.length + 1 ≤ 9 := by omega
    have hpj : ∀ j, j ≤ 4 → (A.1.length + 1) ^ j ≤ 6561 := fun j hj => pow_b hb0 hb9 hj
    generalize hW : (fun j c => mmx A t' (fst A.2.1.1 d') (nI d') (M - j) (Xc (A.1.length + 1) (nI d') (pre A 0 (fst A.2.1.1 d') t') j c)) = W
    have hWe : ∀ j c, W j c = mmx A t' (fst A.2.1.1 d') (nI d') (M - j) (Xc (A.1.length + 1) (nI d') (pre A 0 (fst A.2.1.1 d') t') j c) := fun j c => by rw [← hW]
    have hW0 : W 0 0 = mmx A t' (fst A.2.1.1 d') (nI d') M (pre A 0 (fst A.2.1.1 d') t') := by rw [hWe]; rfl
    have hWs : ∀ j c, j + 1 ≤ M → W j c = if bE j = true then anyL (fun e => W (j + 1) ((A.1.length + 1) * c + e)) (A.1.length + 1) else allL (fun e => W (j + 1) ((A.1.length + 1) * c + e)) (A.1.length + 1) := by
      intro j c hj
      have hbe : bE (M - (j + 1) + 1) = bE j := by
        rw [bE, bE]; exact decide_eq_decide.mpr (by omega)
      have step : ∀ b, b = bE j → W j c = (anyN (fun e => W (j + 1) ((A.1.length + 1) * c + e) == b) A.1.length == b) := by
        intro b hb
        rw [hWe, show M - j = M - (j + 1) + 1 by omega, mmx, hbe, ← hb]
        congr 1
        refine anyN_cg (fun e he => ?_)
        rw [hWe, Xc_step (by omega), ← hb]
      rw [anyL_N, allL_N]
      split
      · rename_i z; exact step true z.symm
      · rename_i z; exact step false (by rw [Bool.not_eq_true] at z; exact z.symm)
    -- backwards
    have l135 : ∀ (k e j c : Nat) (τ : Sg) (P : Nat → Bool), e + k = A.1.length + 1 → j + 1 ≤ M → c < (A.1.length + 1) ^ j → (∀ e, e < A.1.length + 1 → gm τ 57 ((A.1.length + 1) * c + e) = bI (P e)) → (K_X6_turns_119 E Q (sm τ 57 c (bI (if bE j = true then anyL P (A.1.length + 1) else allL P (A.1.length + 1)))) (nI t') (nI d') (nI n') (nI (A.1.length + 1)) (nI ((A.1.length + 1) ^ j)) (nI j) (nI (c + 1))) → K_X6_turns_135 E Q τ (nI t') (nI d') (nI n') (nI (A.1.length + 1)) (nI ((A.1.length + 1) ^ j)) (nI j) (nI c) (bI (allL P e)) (bI (anyL P e)) (nI e) := by
      intro k
      induction k with
      | zero =>
        intro e j c τ P he hj hc hP57 hk
        obtain rfl : e = A.1.length + 1 := by omega
        have hpar := par_tab j (by omega)
        have hcb := hpj j (by omega)
        refine B_X6_turns_135 ⟨fun _ => ?_, fun z => absurd (nI_le (Nat.le_refl _) (by omega)) z⟩
        rw [cl (by omega), nar_bI, nar_bI, nI_1]
        refine ⟨fun z => ⟨vpn (by omega) (by omega), ?_⟩, fun z => ⟨vpn (by omega) (by omega), ?_⟩⟩
        all_goals rw [hpar] at z
        · rw [if_neg z] at hk; exact hk
        · rw [if_pos z] at hk; exact hk
      | succ k ih =>
        intro e j c τ P he hj hc hP57 hk
        have hcb := hpj j (by omega)
        have hcb2 := hpj (j + 1) (by omega)
        have hlt : (A.1.length + 1) * c + e < (A.1.length + 1) ^ (j + 1) := by
          rw [Nat.pow_succ, Nat.mul_comm _ (A.1.length + 1)]
          calc (A.1.length + 1) * c + e < (A.1.length + 1) * c + (A.1.length + 1) := by omega
            _ = (A.1.length + 1) * (c + 1) := by rw [Nat.mul_succ]
            _ ≤ _ := Nat.mul_le_mul_left _ hc
        have hh := ih (e + 1) j c τ P (by omega) hj hc hP57 hk
        rw [allL, anyL] at hh
        have ew := hP57 e (by omega)
        revert hh ew
        generalize P e = z
        generalize allL P e = x
        generalize anyL P e = y
        intro hh ew
        refine B_X6_turns_135 ⟨fun q => absurd q (nI_ge (by omega) (by omega)), fun _ => ?_⟩
        rw [pk_mul, nI_add, cl (by omega), ew, nI_1]
        have hv : vp_in (nI ((A.1.length + 1) * c + e)) 6561 := vpn (by omega) (by omega)
        refine ⟨fun q => ⟨fun q2 => ?_, fun q2 => ⟨hv, fun q3 => ?_, fun q3 => ?_⟩⟩, fun q => ⟨hv, fun q2 => ⟨fun q3 => ?_, fun q3 => ?_⟩, fun q2 => ⟨fun q3 => ?_, fun q3 => ?_⟩⟩⟩
        all_goals cases x <;> cases y <;> cases z <;> first | exact hh | exact absurd rfl q | exact absurd rfl q2 | exact absurd rfl q3 | exact absurd q (by decide) | exact absurd q2 (by decide) | exact absurd q3 (by decide)
    have l119 : ∀ (k c j : Nat) (τ : Sg), c + k = (A.1.length + 1) ^ j → j + 1 ≤ M → Fr 40 57 σ τ → RepM τ A → (∀ x, x < c → gm τ 57 x = bI (W j x)) → (∀ x, c ≤ x → x < (A.1.length + 1) ^ (j + 1) → gm τ 57 x = bI (W (j + 1) x)) → (∀ υ, Fr 40 57 σ υ → RepM υ A → (∀ x, x < (A.1.length + 1) ^ j → gm υ 57 x = bI (W j x)) → K_X6_turns_104 E Q υ (nI t') (nI d') (nI n') (nI (A.1.length + 1)) (nI ((A.1.length + 1) ^ j)) (nI j + -1)) → K_X6_turns_119 E Q τ (nI t') (nI d') (nI n') (nI (A.1.length + 1)) (nI ((A.1.length + 1) ^ j)) (nI j) (nI c) := by
      intro k
      induction k with
      | zero =>
        intro c j τ hc hj f hR h1 h2 hk
        obtain rfl : c = (A.1.length + 1) ^ j := by omega
        have hcb := hpj j (by omega)
        exact B_X6_turns_119 ⟨fun _ => hk τ f hR h1, fun z => absurd (nI_le (Nat.le_refl _) (by omega)) z⟩
      | succ k ih =>
        intro c j τ hc hj f hR h1 h2 hk
        have hcb := hpj j (by omega)
        refine B_X6_turns_119 ⟨fun z => absurd z (nI_ge (by omega) (by omega)), fun _ => ?_⟩
        have hge : ∀ e, (A.1.length + 1) * c + e ≥ c := fun e => Nat.le_trans (Nat.le_mul_of_pos_left c hb0) (Nat.le_add_right _ _)
        have hlt : ∀ e, e < A.1.length + 1 → (A.1.length + 1) * c + e < (A.1.length + 1) ^ (j + 1) := fun e he => by
          rw [Nat.pow_succ, Nat.mul_comm _ (A.1.length + 1)]
          calc (A.1.length + 1) * c + e < (A.1.length + 1) * c + (A.1.length + 1) := by omega
            _ = (A.1.length + 1) * (c + 1) := by rw [Nat.mul_succ]
            _ ≤ _ := Nat.mul_le_mul_left _ (by omega)
        have hh := l135 (A.1.length + 1) 0 j c τ (fun e => W (j + 1) ((A.1.length + 1) * c + e)) (by omega) hj (by omega) (fun e he => h2 _ (hge e) (hlt e he))
        refine hh ?_
        rw [← hWs j c hj]
        refine ih (c + 1) j _ (by omega) hj (f.sm (by omega) (by omega)) (hR.fx (Fx.rf.sm (K := []) (lo := 57) (hi := 57) (by omega) (by omega)) (fun _ w => absurd w List.not_mem_nil) (by omega)) (fun x hx => ?_) (fun x hx1 hx2 => ?_) hk
        · show upd (gm τ 57) c _ x = _
          by_cases z : x = c
          · subst z; rw [upd_s]
          · rw [upd_n z]; exact h1 x (by omega)
        · show upd (gm τ 57) c _ x = _
          rw [upd_n (by omega)]; exact h2 x (by omega) hx2
    have l104 : ∀ (j : Nat) (τ : Sg), j ≤ M → Fr 40 57 σ τ → RepM τ A → (∀ x, x < (A.1.length + 1) ^ j → gm τ 57 x = bI (W j x)) → K_X6_turns_104 E Q τ (nI t') (nI d') (nI n') (nI (A.1.length + 1)) (nI ((A.1.length + 1) ^ j)) (nI j - 1) := by
      intro j
      induction j with
      | zero =>
        intro τ hj f hR h1
        have e := h1 0 (by rw [Nat.pow_zero]; omega)
        have hres := hq τ f hR
        rw [← hW0] at hres
        refine B_X6_turns_104 ⟨fun _ => ?_, fun z => absurd (by decide) z⟩
        rw [e]
        revert hres
        generalize W 0 0 = x
        intro hres
        cases x with
        | true => exact ⟨fun z => absurd z (by decide), fun _ => hres⟩
        | false => exact ⟨fun _ => hres, fun z => absurd rfl z⟩
      | succ j ih =>
        intro τ hj f hR h1
        have hcb := hpj (j + 1) (by omega)
        rw [nI_pred]
        refine B_X6_turns_104 ⟨fun z => absurd z (nI_pos (by omega)), fun _ => ⟨nI_ne0 (by omega) (by omega), ?_⟩⟩
        rw [pk_div (by omega) (by omega) (by omega), Nat.pow_succ, Nat.mul_div_cancel _ hb0]
        refine l119 _ 0 j τ (Nat.zero_add _) hj f hR (fun x hx => absurd hx (by omega)) (fun x _ hx => h1 x hx) (fun υ f2 hR2 h2 => ?_)
        rw [← Int32.sub_eq_add_neg]
        exact ih υ (by omega) f2 hR2 h2
    have l68 : ∀ (k c : Nat) (τ : Sg), c + k = (A.1.length + 1) ^ M → Fr 40 57 σ τ → RepM τ A → (∀ x, x < c → gm τ 57 x = bI (W M x)) → K_X6_turns_68 E Q τ (nI t') (nI d') (nI n') (nI (A.1.length + 1)) (nI ((A.1.length + 1) ^ M)) (nI c) := by
      intro k
      induction k with
      | zero =>
        intro c τ hc f hR h1
        obtain rfl : c = (A.1.length + 1) ^ M := by omega
        have hcb := hpj M (by omega)
        refine B_X6_turns_68 ⟨fun _ => ?_, fun z => absurd (nI_le (Nat.le_refl _) (by omega)) z⟩
        rw [h2n]
        exact l104 M τ (Nat.le_refl _) f hR h1
      | succ k ih =>
        intro c τ hc f hR h1
        have hcb := hpj M (by omega)
        refine B_X6_turns_68 ⟨fun z => absurd z (nI_ge (by omega) (by omega)), fun _ => R_lawTurns hR g (by omega) (by omega) (by omega) (by rw [hM]; omega) (fun υ f2 hR2 => ⟨vpn (by omega) (by omega), ?_⟩)⟩
        rw [hM, cl (by omega), nar_bI, nI_1]
        refine ih (c + 1) _ (by omega) ((f.tr (f2.fr (by intro k hk; simp at hk; omega) (by omega) (by omega))).sm (by omega) (by omega)) (hR2.fx (Fx.rf.sm (K := []) (lo := 57) (hi := 57) (by omega) (by omega)) (fun _ w => absurd w List.not_mem_nil) (by omega)) (fun x hx => ?_)
        show upd (gm υ 57) c _ x = _
        by_cases z : x = c
        · subst z; rw [upd_s, hWe, Nat.sub_self]
        · rw [upd_n z, f2.2.2 57 (by omega)]; exact h1 x (by omega)
    have l44 : ∀ (k i : Nat), i + k = M → K_X6_turns_44 E Q σ (nI t') (nI d') (nI n') (nI (A.1.length + 1)) (nI ((A.1.length + 1) ^ i)) (nI i) := by
      intro k
      induction k with
      | zero =>
        intro i hi
        obtain rfl : i = M := by omega
        refine B_X6_turns_44 ⟨fun _ => l68 _ 0 σ (Nat.zero_add _) Fr.rf h (fun x hx => absurd hx (by omega)), fun z => absurd (by rw [h2n]; exact nI_le (Nat.le_refl _) (by omega)) z⟩
      | succ k ih =>
        intro i hi
        refine B_X6_turns_44 ⟨fun z => absurd z (by rw [h2n]; exact nI_ge (by omega) (by omega)), fun _ => ?_⟩
        rw [pk_mul, ← Nat.pow_succ, nI_1]
        exact ih (i + 1) (by omega)
    exact l44 M 0 (by omega)
  · rw [bi_0, iv_1, e2] at r3; exact bad (fun z => r3 z.2.2)
