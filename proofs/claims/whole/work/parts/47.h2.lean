/-! ===== the class: tries ahead of a day ===== -/
theorem C_ahead {E : EV} {Q : Sg → Prop} {σ : Sg} {A : Ab} {t d : Nat} (h : RepC σ A) (g : Good A) (ht : t < 4) (hd : d ≤ 99) (hq : ∀ τ S, Fr 32 35 σ τ → StC τ 32 A.1.length t (-9) S → Al A.1.length S (pre A 0 (fst A.2.1.1 d) t) → Zn A.1.length S → Q τ) : MetV E mi_X5_tellAhead [.ref 0, .int (nI t), .int (nI d)] σ Q := by
  have hP := g.1.1
  have ho : ∀ k, k < A.2.1.1.length → okE A.1.length (ge A.2.1.1 k) := fun k hk => ev_ge g.2.1 hk
  refine M_X5_tellAhead (C_begin_32 hP h.1 (fun τ S f hS hA => C_first (h.2.1.fr f (by omega)) g.2.1 hd (C_play_32 (f := 0) hP ht g.2.1 (by omega) fst_le hS (h.2.1.fr f (by omega)) (Zn_al hA Zn_init) (fun υ f2 h2 => hq υ _ (f.tr f2) h2 ?_ ?_))))
  · exact runS_al hP ho _ _ _ _ (by have := @fst_le A.2.1.1 d; omega) hA
  · exact Zn.run ho _ _ _ (by have := @fst_le A.2.1.1 d; omega) (Zn_al hA Zn_init)
theorem or256 {x : Int32} (h : ¬ x &&& 256 = 0) : x ||| 256 = x := by
  have c2 : ∀ i, i < 32 → (256 : Int32).toBitVec.getLsbD i = decide (i = 8) := by decide +kernel
  have hz : x.toBitVec.getLsbD 8 = true := by
    by_cases z : x.toBitVec.getLsbD 8 = true
    · exact z
    · refine absurd (Int32.toBitVec_inj.mp (BitVec.eq_of_getLsbD_eq (fun i hi => ?_))) h
      rw [Int32.toBitVec_and, BitVec.getLsbD_and, c2 i hi, (by decide : ∀ i, i < 32 → (Int32.toBitVec 0).getLsbD i = false) i hi]
      by_cases e : i = 8
      · subst e
        rw [Bool.eq_false_iff.mpr z]; rfl
      · rw [decide_eq_false e, Bool.and_false]
  refine Int32.toBitVec_inj.mp (BitVec.eq_of_getLsbD_eq (fun i hi => ?_))
  rw [Int32.toBitVec_or, BitVec.getLsbD_or, c2 i hi]
  by_cases e : i = 8
  · subst e; rw [hz]; rfl
  · rw [decide_eq_false e, Bool.or_false]
theorem Zn_ch {n p : Nat} {b : Bool} {S : SS} (h : Zn n S) (hp : p < n) : Zn n (ch b p S) := by
  rw [ch]
  split
  · intro q h1 h2
    show voi p (think p S) q = 0
    have hz : Zn n (think p S) := Zn_think h
    rw [voi]
    split
    · rw [upd_n (by omega)]; exact hz q h1 h2
    · exact hz q h1 h2
  · exact h
def bI (b : Bool) : Int32 := if b = true then 1 else 0
theorem C_choose_36 {E : EV} {Q : Sg → Int32 → Prop} {σ : Sg} {n t p : Nat} {y : Int32} {b : Bool} {S : SS} (h : StC σ 36 n t y S) (hp : p < 8) (hq : ∀ τ c, Fr 36 39 σ τ → StC τ 36 n t y (ch b p S) → (c = 0 → Vf S → ch b p S = S) → Q τ c) : MetI E mi_X3_choose [.ref 36, .int (nI p), .int (bI b)] σ Q := by
  have e2 : gm σ 38 = S.2.1 := h.2.2.1
  refine M_X3_choose_36 ⟨fun z => ?_, fun z => ?_⟩
  · obtain rfl : b = false := by
      cases b with
      | true => exact absurd z (by decide)
      | false => rfl
    rw [cl (by omega), e2]
    have hS : StC (sm σ 38 p (S.2.1 p ||| 256)) 36 n t y (ch false p S) := by
      refine ⟨h.1, h.2.1, ?_, h.2.2.2.1, h.2.2.2.2⟩
      show upd (gm σ 38) p _ = _
      rw [e2]; rfl
    refine ⟨vpn hp (by omega), fun w => hq _ 0 (Fr.rf.sm (by omega) (by omega)) hS (fun _ _ => ?_), fun _ => hq _ 1 (Fr.rf.sm (by omega) (by omega)) hS (fun c => absurd c (by decide))⟩
    show (S.1, upd S.2.1 p (S.2.1 p ||| 256), S.2.2) = S
    rw [or256 w, upd_id]
  · obtain rfl : b = true := by
      cases b with
      | true => rfl
      | false => exact absurd rfl z
    refine C_think_36 h hp (fun τ f hT => ⟨vpn hp (by omega), fun w => ?_, fun w => ?_⟩)
    all_goals rw [cl (by omega), show gm τ 39 = (think p S).2.2.1 from hT.2.2.2.1] at w
    · rw [cl (by omega), show gm τ 38 = (think p S).2.1 from hT.2.2.1]
      refine hq _ 1 (f.sm (by omega) (by omega)) ?_ (fun c => absurd c (by decide))
      refine ⟨hT.1, hT.2.1, hT.2.2.1, ?_, hT.2.2.2.2⟩
      show upd (gm τ 39) p _ = voi p (think p S)
      rw [show gm τ 39 = (think p S).2.2.1 from hT.2.2.2.1, voi, if_pos w]
    · have e : ch true p S = think p S := by
        rw [ch, if_pos rfl, voi, if_neg w]
      refine hq _ 0 f (by rw [e]; exact hT) (fun _ hV => ?_)
      rw [e, think]
      split
      · rename_i h0
        have w : ¬ S.2.2.1 p = 0 := by
          rw [think, if_pos h0] at w; exact w
        exact absurd h0 (hV p hp w)
      · rfl
theorem C_choose_32 {E : EV} {Q : Sg → Int32 → Prop} {σ : Sg} {n t p : Nat} {y : Int32} {b : Bool} {S : SS} (h : StC σ 32 n t y S) (hp : p < 8) (hq : ∀ τ c, Fr 32 35 σ τ → StC τ 32 n t y (ch b p S) → (c = 0 → Vf S → ch b p S = S) → Q τ c) : MetI E mi_X3_choose [.ref 32, .int (nI p), .int (bI b)] σ Q := by
  have e2 : gm σ 34 = S.2.1 := h.2.2.1
  refine M_X3_choose_32 ⟨fun z => ?_, fun z => ?_⟩
  · obtain rfl : b = false := by
      cases b with
      | true => exact absurd z (by decide)
      | false => rfl
    rw [cl (by omega), e2]
    have hS : StC (sm σ 34 p (S.2.1 p ||| 256)) 32 n t y (ch false p S) := by
      refine ⟨h.1, h.2.1, ?_, h.2.2.2.1, h.2.2.2.2⟩
      show upd (gm σ 34) p _ = _
      rw [e2]; rfl
    refine ⟨vpn hp (by omega), fun w => hq _ 0 (Fr.rf.sm (by omega) (by omega)) hS (fun _ _ => ?_), fun _ => hq _ 1 (Fr.rf.sm (by omega) (by omega)) hS (fun c => absurd c (by decide))⟩
    show (S.1, upd S.2.1 p (S.2.1 p ||| 256), S.2.2) = S
    rw [or256 w, upd_id]
  · obtain rfl : b = true := by
      cases b with
      | true => rfl
      | false => exact absurd rfl z
    refine C_think_32 h hp (fun τ f hT => ⟨vpn hp (by omega), fun w => ?_, fun w => ?_⟩)
    all_goals rw [cl (by omega), show gm τ 35 = (think p S).2.2.1 from hT.2.2.2.1] at w
    · rw [cl (by omega), show gm τ 34 = (think p S).2.1 from hT.2.2.1]
      refine hq _ 1 (f.sm (by omega) (by omega)) ?_ (fun c => absurd c (by decide))
      refine ⟨hT.1, hT.2.1, hT.2.2.1, ?_, hT.2.2.2.2⟩
      show upd (gm τ 35) p _ = voi p (think p S)
      rw [show gm τ 35 = (think p S).2.2.1 from hT.2.2.2.1, voi, if_pos w]
    · have e : ch true p S = think p S := by
        rw [ch, if_pos rfl, voi, if_neg w]
      refine hq _ 0 f (by rw [e]; exact hT) (fun _ hV => ?_)
      rw [e, think]
      split
      · rename_i h0
        have w : ¬ S.2.2.1 p = 0 := by
          rw [think, if_pos h0] at w; exact w
        exact absurd h0 (hV p hp w)
      · rfl
theorem C_copy {E : EV} {Q : Sg → Prop} {σ : Sg} {n t : Nat} {y : Int32} {S : SS} (hn : n ≤ 8) (h : StC σ 32 n t y S) (hq : ∀ τ S', Fr 36 39 σ τ → StC τ 36 n t y S' → Al n S' S → Q τ) : MetV E mi_X3_takeFrom [.ref 36, .ref 32] σ Q := by
  obtain ⟨⟨h1, h2, h3⟩, h4, h5, h6, h7, h8⟩ := h
  refine M_X3_takeFrom_36_32 ?_
  refine hq _ (gm _ 37, gm _ 38, gm _ 39, S.2.2.2) (((((((((Fr.rf.sa (by omega) (by omega)).sa (by omega) (by omega)).sa (by omega) (by omega)).si (by omega) (by omega)).si (by omega) (by omega)).si (by omega) (by omega)).si (by omega) (by omega)).si (by omega) (by omega))) ⟨⟨h1, h2, h3⟩, rfl, rfl, rfl, h7, h8⟩ ⟨fun p hp => ?_, fun p hp => ?_, fun p hp => ?_, rfl⟩
  · exact (sb_cpy0 (n := 8) (by omega)).trans (by rw [show gm σ 33 = S.1 from h4])
  · exact (sb_cpy0 (n := 8) (by omega)).trans (by rw [show gm σ 34 = S.2.1 from h5])
  · exact (sb_cpy0 (n := 8) (by omega)).trans (by rw [show gm σ 35 = S.2.2.1 from h6])
/-- those of a set get a hint (true), or are told by a stranger; in the order of their numbers -/
def chN (b : Bool) (m : Nat) : Nat → SS → SS
  | 0, S => S
  | k + 1, S => if m / 2 ^ k % 2 = 1 then ch b k (chN b m k S) else chN b m k S
def acN (d : Int32) (b : Bool) (m : Nat) : Nat → SS → SS
  | 0, S => S
  | k + 1, S => if m / 2 ^ k % 2 = 1 then actOne d (b, k + 1) (acN d b m k S) else acN d b m k S
theorem chN_aw {n m : Nat} {b : Bool} {d : Int32} {S R : SS} (h : Aw n S R) : ∀ k, k ≤ 8 → Aw n (chN b m k S) (acN d b m k R)
  | 0, _ => h
  | k + 1, hk => by
    rw [chN, acN]
    split
    · exact ch_aw (chN_aw h k (by omega)) (by omega)
    · exact chN_aw h k (by omega)
theorem LI_acN {d : Int32} {b : Bool} {m : Nat} {S : SS} (h : LI S) : ∀ k, LI (acN d b m k S)
  | 0 => h
  | k + 1 => by
    rw [acN]
    split
    · exact LI_one (LI_acN h k)
    · exact LI_acN h k
/-- the rest of the story -/
def rest (A : Ab) (t f : Nat) (S : SS) : SS := runS A.1.length t (-9) 0 A.2.1.1 (A.2.1.1.length - f) f S
abbrev lawD (S : SS) : Prop := ¬ S.2.2.2.2 = 0
theorem C_isLawIf {E : EV} {Q : Sg → Int32 → Prop} {σ : Sg} {A : Ab} {t f m : Nat} {b : Bool} {d : Int32} {S R : SS} (h : RepC σ A) (g : Good A) (ht : t < 4) (hf : f ≤ A.2.1.1.length) (hm : m < 256) (hS : StC σ 32 A.1.length t (-9) S) (hA : Aw A.1.length S R) (hz : Zn A.1.length S) (hL : LI R) (hq : ∀ τ, Fr 36 39 σ τ → Q τ (bi (lawD (rest A t f (acN d b m A.1.length R))))) : MetI E mi_X5_isLawIf [.ref 0, .int (nI m), .int (bI b), .int (nI f)] σ Q := by
  have hP := g.1.1
  have ho : ∀ k, k < A.2.1.1.length → okE A.1.length (ge A.2.1.1 k) := fun k hk => ev_ge g.2.1 hk
  have go : ∀ (j k : Nat) (τ : Sg) (S0 S' : SS), k + j = A.1.length → Fr 36 39 σ τ → Aw A.1.length S0 R → StC τ 36 A.1.length t (-9) S' → S' = chN b m k S0 → Zn A.1.length S' → K_X5_isLawIf_14 E Q τ (nI m) (bI b) (nI f) (nI k) := by
    intro j
    induction j with
    | zero =>
      intro k τ S0 S' hk fr hAw hT hS' hZ
      obtain rfl : k = A.1.length := by omega
      have hF : FoC τ 3 A.1 := h.1.fr fr (by omega)
      have hE : EvC τ 5 A.2.1 := h.2.1.fr fr (by omega)
      refine B_X5_isLawIf_14 ⟨fun _ => ?_, fun q => absurd (by rw [show gi τ 301 = nI A.1.length from hF.1]; exact nI_le (Nat.le_refl _) (by omega)) q⟩
      rw [hE.gi5.1]
      refine C_play_36 hP ht g.2.1 hf (Nat.le_refl _) hT hE hZ (fun υ f2 h2 => ?_)
      have hZ2 : Zn A.1.length (rest A t f S') := Zn.run ho _ _ _ (by omega) hZ
      have hAw2 : Aw A.1.length (rest A t f S') (rest A t f (acN d b m A.1.length R)) := runS_aw hP ho _ _ _ _ (by omega) (by rw [hS']; exact chN_aw hAw _ hP)
      have hLI : LI (rest A t f (acN d b m A.1.length R)) := LI_run _ _ _ (LI_acN hL _)
      have hl := least_congr hAw2.2.2
      have hres := hq υ (fr.tr f2)
      refine C_least_36 h2.1.1 hP h2.2.2.2.1 hZ2 ⟨fun q => q0 hres (fun w => w (hLI.mpr ?_)), fun q => q1 hres (fun w => q ?_)⟩
      · rw [← hl]; exact q
      · have := hLI.mp w
        rw [← hl] at this; exact this
    | succ j ih =>
      intro k τ S0 S' hk fr hAw hT hS' hZ
      have hF : FoC τ 3 A.1 := h.1.fr fr (by omega)
      refine B_X5_isLawIf_14 ⟨fun q => absurd q (by rw [show gi τ 301 = nI A.1.length from hF.1]; exact nI_ge (by omega) (by omega)), fun _ => ?_⟩
      rw [sh_tab m hm k (by omega), nI_1]
      refine ⟨fun q => ?_, fun q => ?_⟩
      · have q : m / 2 ^ k % 2 = 0 := inj_nI (by omega) (by omega) q
        refine ih (k + 1) τ S0 S' (by omega) fr hAw hT ?_ hZ
        rw [hS', chN, if_neg (by omega)]
      · have q : m / 2 ^ k % 2 = 1 := by
          rcases (show m / 2 ^ k % 2 = 0 ∨ m / 2 ^ k % 2 = 1 by omega) with z | z
          · exact absurd (by rw [z]; rfl) q
          · exact z
        refine C_choose_36 hT (by omega) (fun υ c f2 h2 _ => ih (k + 1) υ S0 _ (by omega) (fr.tr f2) hAw h2 ?_ (Zn_ch hZ (by omega)))
        rw [hS', chN, if_pos q]
  refine M_X5_isLawIf (C_copy hP hS (fun τ S' f1 hT hA1 => go A.1.length 0 τ S' S' (by omega) f1 (hA1.aw.tr hA) hT rfl (fun q h1 h2 => (hA1.2.2.1 q h2).trans (hz q h1 h2))))
/-- whether it is law by those of a set -/
def lawIf (A : Ab) (t d : Nat) (b : Bool) (m : Nat) : SS := rest A t (fst A.2.1.1 d) (acN (nI d) b m A.1.length (pre A 0 (fst A.2.1.1 d) t))
def chP (A : Ab) (t d : Nat) (b : Bool) (m : Nat) : Bool := decide (lawD (lawIf A t d b m)) == b
theorem chP_iff {A : Ab} {t d m : Nat} {b : Bool} : bi (lawD (lawIf A t d b m)) = bI b ↔ chP A t d b m = true := by
  rw [chP, beq_iff_eq]
  by_cases h : lawD (lawIf A t d b m)
  · rw [bi_t h, decide_eq_true h]
    cases b with
    | true => exact ⟨fun _ => rfl, fun _ => rfl⟩
    | false => exact ⟨fun z => absurd z (by decide), fun z => absurd z (by decide)⟩
  · rw [bi_f h, decide_eq_false h]
    cases b with
    | true => exact ⟨fun z => absurd z (by decide), fun z => absurd z (by decide)⟩
    | false => exact ⟨fun _ => rfl, fun _ => rfl⟩
theorem C_chosen {E : EV} {Q : Sg → Int32 → Prop} {σ : Sg} {A : Ab} {t d : Nat} {b : Bool} (h : RepC σ A) (g : Good A) (ht : t < 4) (hd : d ≤ 99) (hq : ∀ τ, Fr 32 39 σ τ → Q τ (fewR (few (chP A t d b) (2 ^ A.1.length)))) : MetI E mi_X5_fewestChosen [.ref 0, .int (nI t), .int (nI d), .int (bI b)] σ Q := by
  have hP := g.1.1
  have hp : 2 ^ A.1.length ≤ 256 := by
    have : 2 ^ A.1.length ≤ 2 ^ 8 := Nat.pow_le_pow_right (by omega) hP
    exact this
  have go : ∀ (j k : Nat) (τ : Sg) (S : SS), k + j = 2 ^ A.1.length → Fr 32 39 σ τ → StC τ 32 A.1.length t (-9) S → Aw A.1.length S (pre A 0 (fst A.2.1.1 d) t) → Zn A.1.length S → K_X5_fewestChosen_38 E Q τ (nI t) (nI d) (bI b) (nI (fst A.2.1.1 d)) (fewR (few (chP A t d b) k)) (nI (fewN 8 (few (chP A t d b) k))) (nI (2 ^ A.1.length)) (nI k) := by
    intro j
    induction j with
    | zero =>
      intro k τ S hk f hS hA hz
      obtain rfl : k = 2 ^ A.1.length := by omega
      exact B_X5_fewestChosen_38 ⟨fun _ => hq τ f, fun q => absurd (nI_le (Nat.le_refl _) (by omega)) q⟩
    | succ j ih =>
      intro k τ S hk f hS hA hz
      have hb8 := @bcnt_le k
      have hn : fewN 8 (few (chP A t d b) k) ≤ 9 := by
        cases hf : few (chP A t d b) k with
        | none => exact Nat.le_refl 9
        | some c => exact Nat.le_trans (@bcnt_le c) (by omega)
      have next : ∀ υ, Fr 36 39 τ υ → ∀ o, few (chP A t d b) (k + 1) = o → K_X5_fewestChosen_38 E Q υ (nI t) (nI d) (bI b) (nI (fst A.2.1.1 d)) (fewR o) (nI (fewN 8 o)) (nI (2 ^ A.1.length)) (nI k + 1) := fun υ f2 o ho => by
        rw [nI_1, ← ho]
        refine ih (k + 1) υ S (by omega) (f.tr (f2.mono (by omega) (by omega))) ?_ hA hz
        obtain ⟨⟨s1, s2, s3⟩, s4, s5, s6, s7, s8⟩ := hS
        exact ⟨⟨(f2.gi (by omega)).trans s1, (f2.gi (by omega)).trans s2, (f2.gi (by omega)).trans s3⟩, (f2.gm (by omega)).trans s4, (f2.gm (by omega)).trans s5, (f2.gm (by omega)).trans s6, (f2.gi (by omega)).trans s7, (f2.gi (by omega)).trans s8⟩
      refine B_X5_fewestChosen_38 ⟨fun q => absurd q (nI_ge (by omega) (by omega)), fun _ => C_bits (by omega) ⟨fun q => ?_, fun q => ?_⟩⟩
      · refine next τ Fr.rf _ ?_
        have := (nI_leI (by omega) (by omega)).mp q
        rw [few_step hb8, if_neg (fun z => by omega)]
      · have hlt : bcnt k < fewN 8 (few (chP A t d b) k) := by
          rcases Nat.lt_or_ge (bcnt k) (fewN 8 (few (chP A t d b) k)) with z | z
          · exact z
          · exact absurd (nI_le z (by omega)) q
        refine C_isLawIf (d := nI d) (h.fr f (by omega)) g ht fst_le (by omega) hS hA hz LI_pre (fun υ f2 => ⟨fun r => ?_, fun r => C_bits (by omega) ?_⟩)
        · have r : ¬ bi (lawD (lawIf A t d b k)) = bI b := r
          rw [chP_iff] at r
          refine next υ f2 _ ?_
          rw [few_step hb8, if_neg (fun z => r z.2)]
        · have r : bi (lawD (lawIf A t d b k)) = bI b := r
          rw [chP_iff] at r
          refine next υ f2 (some k) ?_
          rw [few_step hb8, if_pos ⟨hlt, r⟩]
  refine M_X5_fewestChosen (C_ahead h g ht hd (fun τ S f hS hA hz => C_first (h.2.1.fr f (by omega)) g.2.1 hd ?_))
  rw [show gi τ 301 = nI A.1.length from (h.1.fr f (by omega)).1, shl_1 _ (by omega)]
  exact go (2 ^ A.1.length) 0 τ S (by omega) (f.mono (by omega) (by omega)) hS hA.aw hz
def S_chosen (A : Ab) (b : Bool) (t d : Int32) : Int32 := if (0 ≤ t.toInt ∧ t.toInt < 4) ∧ (0 ≤ d.toInt ∧ d.toInt ≤ 99) then fewR (few (chP A t.toNatClampNeg d.toNatClampNeg b) (2 ^ A.1.length)) else -1
theorem C_hints {E : EV} {Q : Sg → Int32 → Prop} {σ : Sg} {A : Ab} {t d : Int32} (h : RepC σ A) (g : Good A) (hq : ∀ τ, Fr 32 39 σ τ → Q τ (S_chosen A true t d)) : MetI E mi_X5_hints [.ref 0, .int t, .int d] σ Q := by
  refine M_X5_hints (C_thing ⟨fun r => ?_, fun r => C_day ⟨fun r2 => ?_, fun r2 => ?_⟩⟩)
  · rw [bi_0] at r
    have := hq σ Fr.rf
    rw [S_chosen, if_neg (fun z => r z.1)] at this
    exact this
  · rw [bi_n0] at r r2
    obtain ⟨t', ht, rfl, et⟩ := ge0 (x := t) r.1
    obtain ⟨d', hd, rfl, ed⟩ := ge0 (x := d) r2.1
    refine C_chosen (b := true) h g (by omega) (by omega) (fun τ f => ?_)
    have := hq τ f
    rw [S_chosen, if_pos ⟨r, r2⟩, cl ht, cl hd] at this
    exact this
  · rw [bi_0] at r2
    have := hq σ Fr.rf
    rw [S_chosen, if_neg (fun z => r2 z.2)] at this
    exact this
theorem C_hinder {E : EV} {Q : Sg → Int32 → Prop} {σ : Sg} {A : Ab} {t d : Int32} (h : RepC σ A) (g : Good A) (hq : ∀ τ, Fr 32 39 σ τ → Q τ (S_chosen A false t d)) : MetI E mi_X5_hinder [.ref 0, .int t, .int d] σ Q := by
  refine M_X5_hinder (C_thing ⟨fun r => ?_, fun r => C_day ⟨fun r2 => ?_, fun r2 => ?_⟩⟩)
  · rw [bi_0] at r
    have := hq σ Fr.rf
    rw [S_chosen, if_neg (fun z => r z.1)] at this
    exact this
  · rw [bi_n0] at r r2
    obtain ⟨t', ht, rfl, et⟩ := ge0 (x := t) r.1
    obtain ⟨d', hd, rfl, ed⟩ := ge0 (x := d) r2.1
    refine C_chosen (b := false) h g (by omega) (by omega) (fun τ f => ?_)
    have := hq τ f
    rw [S_chosen, if_pos ⟨r, r2⟩, cl ht, cl hd] at this
    exact this
  · rw [bi_0] at r2
    have := hq σ Fr.rf
    rw [S_chosen, if_neg (fun z => r2 z.2)] at this
    exact this
