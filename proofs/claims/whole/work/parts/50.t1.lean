/-! ===== by turns ===== -/
def anyN (P : Nat → Bool) : Nat → Bool
  | 0 => P 0
  | k + 1 => anyN P k || P (k + 1)
theorem anyN_mono {P : Nat → Bool} {j : Nat} (h : anyN P j = true) : ∀ i, anyN P (j + i) = true
  | 0 => h
  | i + 1 => by
    rw [← Nat.add_assoc, anyN, anyN_mono h i]; rfl
theorem anyN_0 {P : Nat → Bool} : ∀ {j : Nat}, anyN P j = false → P 0 = false
  | 0, h => h
  | j + 1, h => by
    rw [anyN, Bool.or_eq_false_iff] at h
    exact anyN_0 h.1
/-- whether the hints are next, with so many choices left -/
def bE (L : Nat) : Bool := decide (L % 2 = 0)
/-- whether it is law in the end, with so many choices left -/
def mmx (A : Ab) (t f : Nat) (d : Int32) : Nat → SS → Bool
  | 0, S => decide (lawD (rest A t f S))
  | L + 1, S => (anyN (fun c => mmx A t f d L (actOne d (bE (L + 1), c) S) == bE (L + 1)) A.1.length) == bE (L + 1)
theorem strg_LI {p : Nat} {S : SS} (h : LI S) : LI (strg p S) := h
theorem actOne_aw {n : Nat} {d : Int32} {x : Bool × Nat} {S R : SS} (h : Aw n S R) (hx : x.2 ≤ 8) : Aw n (actOne d x S) (actOne d x R) := by
  rw [actOne, actOne]
  split
  · exact h
  · split
    · exact speak_aw (think_aw h (by omega)) (by omega)
    · exact strg_aw h (by omega)
theorem law_aw {A : Ab} {t f : Nat} {S R : SS} (g : Good A) (hf : f ≤ A.2.1.1.length) (h : Aw A.1.length S R) (h1 : LI S) (h2 : LI R) : lawD (rest A t f S) ↔ lawD (rest A t f R) := by
  have ho : ∀ k, k < A.2.1.1.length → okE A.1.length (ge A.2.1.1 k) := fun k hk => ev_ge g.2.1 hk
  have hAw : Aw A.1.length (rest A t f S) (rest A t f R) := runS_aw g.1.1 ho _ _ _ _ (by omega) h
  have e := least_congr hAw.2.2
  have k1 : LI (rest A t f S) := LI_run _ _ _ h1
  have k2 : LI (rest A t f R) := LI_run _ _ _ h2
  constructor
  · intro h z
    have := k2.mp z
    rw [← e] at this
    exact h (k1.mpr this)
  · intro h z
    have := k1.mp z
    rw [e] at this
    exact h (k2.mpr this)
theorem anyN_cg {P R : Nat → Bool} : ∀ {n : Nat}, (∀ c, c ≤ n → P c = R c) → anyN P n = anyN R n
  | 0, h => h 0 (Nat.le_refl 0)
  | n + 1, h => by rw [anyN, anyN, anyN_cg (fun c hc => h c (by omega)), h (n + 1) (Nat.le_refl _)]
theorem mmx_aw {A : Ab} {t f : Nat} {d : Int32} (g : Good A) (hf : f ≤ A.2.1.1.length) : ∀ (L : Nat) (S R : SS), Aw A.1.length S R → LI S → LI R → mmx A t f d L S = mmx A t f d L R
  | 0, S, R, h, h1, h2 => by
    have e := law_aw (t := t) g hf h h1 h2
    rw [mmx, mmx]
    exact decide_eq_decide.mpr e
  | L + 1, S, R, h, h1, h2 => by
    have hP := g.1.1
    rw [mmx, mmx, anyN_cg (fun c hc => by rw [mmx_aw g hf L _ _ (actOne_aw h (by show c ≤ 8; omega)) (LI_one h1) (LI_one h2)])]
theorem StC.f32 {σ τ : Sg} {n t : Nat} {y : Int32} {S : SS} (h : StC σ 32 n t y S) (f : Fr 36 39 σ τ) : StC τ 32 n t y S := by
  obtain ⟨⟨s1, s2, s3⟩, s4, s5, s6, s7, s8⟩ := h
  exact ⟨⟨(f.gi (by omega)).trans s1, (f.gi (by omega)).trans s2, (f.gi (by omega)).trans s3⟩, (f.gm (by omega)).trans s4, (f.gm (by omega)).trans s5, (f.gm (by omega)).trans s6, (f.gi (by omega)).trans s7, (f.gi (by omega)).trans s8⟩
theorem acN_0 {d : Int32} {b : Bool} {S : SS} : ∀ k, acN d b 0 k S = S
  | 0 => rfl
  | k + 1 => by rw [acN, if_neg (by rw [Nat.zero_div]; decide), acN_0 k]
theorem upd_back {f : Nat → Int32} {k : Nat} {v : Int32} : upd (upd f k v) k (f k) = f := by
  funext x
  by_cases e : x = k
  · subst e; exact upd_s
  · rw [upd_n e, upd_n e]
theorem think_back {p : Nat} {S : SS} : (think p S).1 = S.1 ∧ upd (think p S).2.1 p (S.2.1 p) = S.2.1 ∧ (think p S).2.2 = S.2.2 := by
  rw [think]
  split
  · exact ⟨rfl, upd_back, rfl⟩
  · exact ⟨rfl, upd_id, rfl⟩
theorem ch_back {b : Bool} {p : Nat} {S : SS} : (ch b p S).1 = S.1 ∧ upd (ch b p S).2.1 p (S.2.1 p) = S.2.1 ∧ upd (ch b p S).2.2.1 p (S.2.2.1 p) = S.2.2.1 ∧ (ch b p S).2.2.2 = S.2.2.2 := by
  cases b with
  | true =>
    obtain ⟨a1, a2, a3⟩ := @think_back p S
    have e : (think p S).2.2.1 = S.2.2.1 := congrArg Prod.fst a3
    rw [ch, if_pos rfl]
    have a4 : (think p S).2.2.2 = S.2.2.2 := congrArg Prod.snd a3
    refine ⟨a1, a2, ?_, a4⟩
    show upd (voi p (think p S)) p (S.2.2.1 p) = S.2.2.1
    rw [voi, e]
    split
    · exact upd_back
    · exact upd_id
  | false => exact ⟨rfl, upd_back, upd_id, rfl⟩
theorem Vf_ch {b : Bool} {p : Nat} {S : SS} (h : Vf S) (hp : p < 8) : Vf (ch b p S) := by
  cases b with
  | true =>
    obtain ⟨a, c⟩ := Vf_think h hp
    exact Vf_voi a c rfl rfl
  | false => exact Vf_strg h
theorem par_tab : ∀ L, L < 5 → ((nI L - nI L / (2 : Int32) * (2 : Int32)) = 0 ↔ bE L = true) := by decide +kernel
theorem bI_inj {a b : Bool} : bI a = bI b ↔ a = b := by revert a b; decide
theorem bi_bI {a : Bool} : bi (a = true) = bI a := by cases a <;> decide
theorem C_byTurns {E : EV} {A : Ab} {t f : Nat} {d : Int32} (g : Good A) (ht : t < 4) (hf : f ≤ A.2.1.1.length) : ∀ (L k : Nat) (σ : Sg) (S R : SS) (Q : Sg → Int32 → Prop), L ≤ k → L ≤ 4 → RepC σ A → StC σ 32 A.1.length t (-9) S → Aw A.1.length S R → Zn A.1.length S → Vf S → LI R → (∀ τ, Fr 32 39 σ τ → StC τ 32 A.1.length t (-9) S → Q τ (bI (mmx A t f d L R))) → MetI E (mi_X5_isLawByTurns k) [.ref 0, .int (nI L), .int (nI f)] σ Q := by
  intro L
  have hP := g.1.1
  induction L with
  | zero =>
    intro k σ S R Q hk hL4 h hS hA hz hv hl hq
    have base : MetI E mi_X5_isLawIf [.ref 0, .int (nI 0), .int (bI true), .int (nI f)] σ (fun τ r => (r = 0 ∨ r = 1) ∧ Q τ r) := by
      refine C_isLawIf (d := d) h g ht hf (by omega) hS hA hz hl (fun τ f1 => ⟨bi_01, ?_⟩)
      have := hq τ (f1.mono (by omega) (by omega)) (hS.f32 f1)
      rw [acN_0, ← show bI (mmx A t f d 0 R) = bi (lawD (rest A t f R)) from ?_]
      · exact this
      · rw [← bi_bI, mmx]; exact bi_c decide_eq_true_iff
    cases k with
    | zero => exact M0_X5_isLawByTurns (by decide) base
    | succ k => exact M_X5_isLawByTurns ⟨fun z => absurd z (by decide), fun _ => base⟩
  | succ L ih =>
    intro k σ S R Q hk hL4 h hS hA hz hv hl hq
    obtain ⟨k, rfl⟩ : ∃ j, k = j + 1 := ⟨k - 1, by omega⟩
    have hpar := par_tab (L + 1) (by omega)
    generalize hb : bE (L + 1) = b at hpar
    have hmm : mmx A t f d (L + 1) R = (anyN (fun c => mmx A t f d L (actOne d (b, c) R) == b) A.1.length == b) := by rw [mmx, hb]
    generalize hPd : (fun c => mmx A t f d L (actOne d (b, c) R) == b) = P at hmm
    have hP0 : P 0 = (mmx A t f d L R == b) := by rw [← hPd]; rfl
    -- one choice
    have one : ∀ (τ : Sg) (p : Nat) (Q2 : Sg → Int32 → Prop), p < A.1.length → Fr 32 39 σ τ → StC τ 32 A.1.length t (-9) S → P 0 = false → (∀ υ, Fr 32 39 σ υ → StC υ 32 A.1.length t (-9) S → Q2 υ (bI (P (p + 1)))) → MetI E (mi_X5_isReachedBy (k + 1)) [.ref 0, .int (nI p), .int (nI (L + 1)), .int (nI f)] τ Q2 := by
      intro τ p Q2 hp fr hT h0 hq2
      have ePp : P (p + 1) = (mmx A t f d L (actOne d (b, p + 1) R) == b) := by rw [← hPd]
      obtain ⟨k1, k2, k3, k4⟩ := @ch_back b p S
      -- behind the choice
      have after : ∀ υ (c : Int32), Fr 32 35 τ υ → StC υ 32 A.1.length t (-9) (ch b p S) → (c = 0 → Vf S → ch b p S = S) → ((¬ c = 0) → MetI E (mi_X5_isLawByTurns k) [.ref 0, .int (nI (L + 1) - 1), .int (nI f)] υ (fun τ6 r7 => ((¬ r7 = bI b) → Q2 (sm (sm τ6 34 (nI p).toNatClampNeg ((gm τ 34) (nI p).toNatClampNeg)) 35 (nI p).toNatClampNeg ((gm τ 35) (nI p).toNatClampNeg)) 0) ∧ ((r7 = bI b) → Q2 (sm (sm τ6 34 (nI p).toNatClampNeg ((gm τ 34) (nI p).toNatClampNeg)) 35 (nI p).toNatClampNeg ((gm τ 35) (nI p).toNatClampNeg)) 1))) ∧ (c = 0 → Q2 υ 0) := by
        intro υ c f1 h1 hc
        refine ⟨fun _ => ?_, fun z => ?_⟩
        · rw [nI_pred, cl (by omega)]
          refine ih k υ (ch b p S) (actOne d (b, p + 1) R) _ (by omega) (by omega) (h.fr ((fr.tr (f1.mono (by omega) (by omega)))) (by omega)) h1 (ch_aw hA (by omega)) (Zn_ch hz hp) (Vf_ch hv (by omega)) (LI_one hl) (fun φ f2 h2 => ?_)
          have hst : StC (sm (sm φ 34 p (gm τ 34 p)) 35 p (gm τ 35 p)) 32 A.1.length t (-9) S := by
            obtain ⟨s0, s4, s5, s6, s7, s8⟩ := h2
            refine ⟨s0, s4.trans k1, ?_, ?_, s7.trans (by rw [k4]), s8.trans (by rw [k4])⟩
            · show upd (gm φ 34) p (gm τ 34 p) = _
              rw [show gm φ 34 = (ch b p S).2.1 from s5, show gm τ 34 = S.2.1 from hT.2.2.1]; exact k2
            · show upd (gm φ 35) p (gm τ 35 p) = _
              rw [show gm φ 35 = (ch b p S).2.2.1 from s6, show gm τ 35 = S.2.2.1 from hT.2.2.2.1]; exact k3
          have hres := hq2 _ ((((fr.tr (f1.mono (by omega) (by omega))).tr f2).sm (a := 34) (i := p) (v := gm τ 34 p) (by omega) (by omega)).sm (a := 35) (i := p) (v := gm τ 35 p) (by omega) (by omega)) hst
          rw [ePp] at hres
          refine ⟨fun q => ?_, fun q => ?_⟩
          · rw [bI_inj] at q
            rw [show (mmx A t f d L (actOne d (b, p + 1) R) == b) = false from by simpa using q] at hres
            exact hres
          · rw [bI_inj] at q
            rw [show (mmx A t f d L (actOne d (b, p + 1) R) == b) = true from by simpa using q] at hres
            exact hres
        · have e := hc z hv
          have hA2 : Aw A.1.length (actOne d (b, p + 1) R) R := by
            have := ch_aw (b := b) (d := d) hA (show p < 8 by omega)
            rw [e] at this
            exact ⟨fun q hq => (this.1 q hq).symm.trans (hA.1 q hq), fun q hq => (this.2.1 q hq).symm.trans (hA.2.1 q hq), fun q hq => (this.2.2 q hq).symm.trans (hA.2.2 q hq)⟩
          have e2 : P (p + 1) = false := by
            rw [ePp, mmx_aw g hf L _ _ hA2 (LI_one hl) hl, ← hP0]; exact h0
          have := hq2 υ (fr.tr (f1.mono (by omega) (by omega))) (by rw [e] at h1; exact h1)
          rw [e2] at this
          exact this
      refine M_X5_isReachedBy ⟨fun z => ⟨vpn (by omega) (by omega), ?_⟩, fun z => ⟨vpn (by omega) (by omega), ?_⟩⟩
      · obtain rfl : b = false := by
          cases b with
          | true => exact absurd (hpar.mpr rfl) z
          | false => rfl
        exact C_choose_32 (b := false) hT (by omega) after
      · obtain rfl : b = true := hpar.mp z
        exact C_choose_32 (b := true) hT (by omega) after
    have fin : ∀ τ, Fr 32 39 σ τ → StC τ 32 A.1.length t (-9) S → ∀ x : Bool, anyN P A.1.length = x → ((¬ bI x = bI b) → Q τ 0) ∧ ((bI x = bI b) → Q τ 1) := by
      intro τ fr hT x hx
      have := hq τ fr hT
      rw [hmm, hx] at this
      refine ⟨fun q => ?_, fun q => ?_⟩
      · rw [bI_inj] at q
        rw [show (x == b) = false from by simpa using q] at this; exact this
      · rw [bI_inj] at q
        rw [show (x == b) = true from by simpa using q] at this; exact this
    have go : ∀ (j p : Nat) (τ : Sg), p + j = A.1.length → Fr 32 39 σ τ → StC τ 32 A.1.length t (-9) S → K_X5_isLawByTurns_46 E Q (k + 1) τ (nI (L + 1)) (nI f) (bI b) (bI (anyN P p)) (nI p) := by
      intro j
      induction j with
      | zero =>
        intro p τ hp fr hT
        obtain rfl : p = A.1.length := by omega
        have e : gi τ 301 = nI A.1.length := (h.1.fr fr (by omega)).1
        exact B_X5_isLawByTurns_46 ⟨fun _ => fin τ fr hT _ rfl, fun q => absurd (by rw [e]; exact nI_le (Nat.le_refl _) (by omega)) q⟩
      | succ j ihj =>
        intro p τ hp fr hT
        have e : gi τ 301 = nI A.1.length := (h.1.fr fr (by omega)).1
        refine B_X5_isLawByTurns_46 ⟨fun q => absurd q (by rw [e]; exact nI_ge (by omega) (by omega)), fun _ => ⟨fun q => ?_, fun q => ?_⟩⟩
        · have h1 : anyN P p = true := by
            cases hx : anyN P p with
            | true => rfl
            | false => rw [hx] at q; exact absurd rfl q
          have h2 := anyN_mono h1 (j + 1)
          rw [hp] at h2
          rw [h1]
          exact fin τ fr hT true h2
        · have h1 : anyN P p = false := by
            cases hx : anyN P p with
            | true => rw [hx] at q; exact absurd q (by decide)
            | false => rfl
          refine one τ p _ (by omega) fr hT (anyN_0 h1) (fun υ f2 h2 => ?_)
          have := ihj (p + 1) υ (by omega) f2 h2
          rw [anyN, h1, Bool.false_or] at this
          rw [nI_1]; exact this
    have start : ∀ (τ : Sg) (r : Int32), Fr 32 39 σ τ → StC τ 32 A.1.length t (-9) S → r = bI (mmx A t f d L R) → ((¬ r = bI b) → K_X5_isLawByTurns_46 E Q (k + 1) τ (nI (L + 1)) (nI f) (bI b) 0 0) ∧ ((r = bI b) → K_X5_isLawByTurns_46 E Q (k + 1) τ (nI (L + 1)) (nI f) (bI b) 1 0) := by
      intro τ r fr hT hr
      have hh := go A.1.length 0 τ (by omega) fr hT
      rw [anyN, hP0] at hh
      rw [hr]
      refine ⟨fun q => ?_, fun q => ?_⟩
      · rw [bI_inj] at q
        rw [show (mmx A t f d L R == b) = false from by simpa using q] at hh; exact hh
      · rw [bI_inj] at q
        rw [show (mmx A t f d L R == b) = true from by simpa using q] at hh; exact hh
    refine M_X5_isLawByTurns ⟨fun _ => ⟨fun z => ?_, fun z => ?_⟩, fun z => absurd ((nI_ltI (a := 0) (b := L + 1) (by omega) (by omega)).mpr (by omega)) z⟩
    · obtain rfl : b = false := by
        cases b with
        | true => exact absurd (hpar.mpr rfl) z
        | false => rfl
      rw [nI_pred]
      exact ih k σ S R _ (by omega) (by omega) h hS hA hz hv hl (fun τ fr hT => start τ _ fr hT rfl)
    · obtain rfl : b = true := hpar.mp z
      rw [nI_pred]
      exact ih k σ S R _ (by omega) (by omega) h hS hA hz hv hl (fun τ fr hT => start τ _ fr hT rfl)
def S_turns (A : Ab) (t d n : Int32) : Int32 := if (0 ≤ t.toInt ∧ t.toInt < 4) ∧ (0 ≤ d.toInt ∧ d.toInt ≤ 99) ∧ (1 ≤ n.toInt ∧ n.toInt ≤ 2) then bI (mmx A t.toNatClampNeg (fst A.2.1.1 d.toNatClampNeg) d (2 * n.toNatClampNeg) (pre A 0 (fst A.2.1.1 d.toNatClampNeg) t.toNatClampNeg)) else -1
theorem C_turns {E : EV} {Q : Sg → Int32 → Prop} {σ : Sg} {A : Ab} {t d n : Int32} (h : RepC σ A) (g : Good A) (hq : ∀ τ, Fr 32 39 σ τ → Q τ (S_turns A t d n)) : MetI E mi_X5_turns [.ref 0, .int t, .int d, .int n] σ Q := by
  have e2 : (2 : Int32).toInt = 2 := by decide
  have hP := g.1.1
  have bad : ¬ ((0 ≤ t.toInt ∧ t.toInt < 4) ∧ (0 ≤ d.toInt ∧ d.toInt ≤ 99) ∧ (1 ≤ n.toInt ∧ n.toInt ≤ 2)) → Q σ (-1) := fun z => by
    have := hq σ Fr.rf
    rw [S_turns, if_neg z] at this
    exact this
  refine M_X5_turns (C_thing ⟨fun r => ?_, fun r => C_day ⟨fun r2 => ?_, fun r2 => ⟨fun q => ?_, fun q => ⟨fun q2 => ?_, fun q2 => ?_⟩⟩⟩⟩)
  · rw [bi_0] at r; exact bad (fun z => r z.1)
  · rw [bi_0] at r2; exact bad (fun z => r2 z.2.1)
  · rw [Int32.lt_iff_toInt_lt, iv_1] at q; exact bad (fun z => by have := z.2.2; omega)
  · rw [bi_n0] at r r2
    rw [Int32.lt_iff_toInt_lt, iv_1] at q
    rw [Int32.le_iff_toInt_le, e2] at q2
    have ok : (0 ≤ t.toInt ∧ t.toInt < 4) ∧ (0 ≤ d.toInt ∧ d.toInt ≤ 99) ∧ (1 ≤ n.toInt ∧ n.toInt ≤ 2) := ⟨r, r2, by omega, q2⟩
    obtain ⟨t', ht, rfl, et⟩ := ge0 (x := t) r.1
    obtain ⟨d', hd, rfl, ed⟩ := ge0 (x := d) r2.1
    obtain ⟨n', hn, rfl, en⟩ := ge0 (x := n) (by omega)
    have ho : ∀ k, k < A.2.1.1.length → okE A.1.length (ge A.2.1.1 k) := fun k hk => ev_ge g.2.1 hk
    refine C_ahead h g (by omega) (by omega) (fun τ S f hS hA hz => C_first (h.2.1.fr f (by omega)) g.2.1 (by omega) ?_)
    rw [show (2 : Int32) * nI n' = nI (2 * n') from by rw [show (2 : Int32) = nI 2 from rfl, pk_mul]]
    have hvp : Vf (pre A 0 (fst A.2.1.1 d') t') := Vf_run hP ho _ _ _ (by have := @fst_le A.2.1.1 d'; omega) Vf_init
    have hv : Vf S := fun p hp hvo => by
      rw [hA.2.2.1 p hp] at hvo
      rw [hA.2.1 p hp]; exact hvp p hp hvo
    refine C_byTurns (d := nI d') g (by omega) fst_le (2 * n') 4 τ S _ _ (by omega) (by omega) (h.fr f (by omega)) hS hA.aw hz hv LI_pre (fun υ f2 _ => ?_)
    have hres := hq υ ((f.mono (by omega) (by omega)).tr f2)
    rw [S_turns, if_pos ok, cl ht, cl hd, cl hn] at hres
    revert hres
    generalize mmx A t' (fst A.2.1.1 d') (nI d') (2 * n') (pre A 0 (fst A.2.1.1 d') t') = x
    intro hres
    cases x with
    | true => exact ⟨fun z => absurd z (by decide), fun _ => hres⟩
    | false => exact ⟨fun _ => hres, fun z => absurd rfl z⟩
  · rw [Int32.le_iff_toInt_le, e2] at q2; exact bad (fun z => q2 z.2.2.2)
