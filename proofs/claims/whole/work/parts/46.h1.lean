/-! ===== two stories alike but for the day of the law ===== -/
def Aw (n : Nat) (S R : SS) : Prop := (∀ p, p < n → S.1 p = R.1 p) ∧ (∀ p, p < 8 → S.2.1 p = R.2.1 p) ∧ ∀ p, p < 8 → S.2.2.1 p = R.2.2.1 p
theorem Aw.rf {n : Nat} {S : SS} : Aw n S S := ⟨fun _ _ => rfl, fun _ _ => rfl, fun _ _ => rfl⟩
theorem Aw.tr {n : Nat} {S R U : SS} (h : Aw n S R) (h2 : Aw n R U) : Aw n S U := ⟨fun p q => (h.1 p q).trans (h2.1 p q), fun p q => (h.2.1 p q).trans (h2.2.1 p q), fun p q => (h.2.2 p q).trans (h2.2.2 p q)⟩
theorem Al.aw {n : Nat} {S R : SS} (h : Al n S R) : Aw n S R := ⟨h.1, h.2.1, h.2.2.1⟩
theorem think_aw {n p : Nat} {S R : SS} (h : Aw n S R) (hp : p < 8) : Aw n (think p S) (think p R) := by
  have e := h.2.1 p hp
  rw [think, think, e]
  split
  · exact ⟨h.1, upd_al h.2.1, h.2.2⟩
  · exact h
theorem talk_aw {n a b : Nat} {S R : SS} (h : Aw n S R) (ha : a < 8) (hb : b < 8) : Aw n (talk a b S) (talk a b R) := by
  rw [talk, talk, h.2.1 a ha, h.2.1 b hb]
  exact ⟨h.1, upd_al h.2.1, h.2.2⟩
theorem move_aw {n a : Nat} {l : Int32} {S R : SS} (h : Aw n S R) : Aw n (move a l S) (move a l R) := ⟨upd_al h.1, h.2.1, h.2.2⟩
theorem strg_aw {n p : Nat} {S R : SS} (h : Aw n S R) (hp : p < 8) : Aw n (strg p S) (strg p R) := by
  rw [strg, strg, h.2.1 p hp]
  exact ⟨h.1, upd_al h.2.1, h.2.2⟩
/-- the voice of one, whatever that makes of the law -/
def voi (p : Nat) (S : SS) : Nat → Int32 := if S.2.2.1 p = 0 then upd S.2.2.1 p (S.2.1 p) else S.2.2.1
theorem speak_voi {p : Nat} {d : Int32} {S : SS} : (speak p d S).1 = S.1 ∧ (speak p d S).2.1 = S.2.1 ∧ (speak p d S).2.2.1 = voi p S := by
  rw [speak, voi]
  split
  · split <;> exact ⟨rfl, rfl, rfl⟩
  · exact ⟨rfl, rfl, rfl⟩
theorem voi_aw {n p : Nat} {S R : SS} (h : Aw n S R) (hp : p < 8) : ∀ q, q < 8 → voi p S q = voi p R q := by
  intro q hq
  rw [voi, voi, h.2.2 p hp, h.2.1 p hp]
  split
  · exact upd_al h.2.2 q hq
  · exact h.2.2 q hq
theorem speak_aw {n p : Nat} {d d2 : Int32} {S R : SS} (h : Aw n S R) (hp : p < 8) : Aw n (speak p d S) (speak p d2 R) := by
  obtain ⟨a1, a2, a3⟩ := @speak_voi p d S
  obtain ⟨b1, b2, b3⟩ := @speak_voi p d2 R
  refine ⟨?_, ?_, ?_⟩
  · rw [a1, b1]; exact h.1
  · rw [a2, b2]; exact h.2.1
  · rw [a3, b3]; exact voi_aw h hp
theorem hear_aw {n p : Nat} {S R : SS} (h : Aw n S R) (hp : p < n) (hn : n ≤ 8) : Aw n (hear n p S) (hear n p R) := by
  refine ⟨h.1, fun q hq => ?_, h.2.2⟩
  show (if q < n ∧ S.1 q = S.1 p then S.2.1 q ||| S.2.1 p else S.2.1 q) = if q < n ∧ R.1 q = R.1 p then R.2.1 q ||| R.2.1 p else R.2.1 q
  rw [h.2.1 q hq, h.2.1 p (by omega), h.1 p hp]
  by_cases z : q < n
  · rw [h.1 q z]
  · rw [if_neg (fun w => z w.1), if_neg (fun w => z w.1)]
theorem evS_aw {n t : Nat} {y m : Int32} {e : Ev} {S R : SS} (h : Aw n S R) (hn : n ≤ 8) (he : okE n e) : Aw n (evS n t y m e S) (evS n t y m e R) := by
  obtain ⟨h1, h2, h3, h4⟩ := he
  rw [evS, evS]
  split
  · exact talk_aw h (by omega) (by have := (h3 (by omega)).1; omega)
  · split
    · split
      · exact h
      · exact talk_aw h (by omega) (by have := (h3 (by omega)).1; omega)
    · split
      · split
        · exact think_aw h (by omega)
        · exact h
      · split
        · split
          · exact hear_aw (speak_aw (think_aw h (by omega)) (by omega)) h2 hn
          · exact h
        · split
          · exact h
          · exact move_aw h
theorem runS_aw {n t : Nat} {y set : Int32} {l : List Ev} (hn : n ≤ 8) (ho : ∀ k, k < l.length → okE n (ge l k)) : ∀ (j k : Nat) (S R : SS), k + j ≤ l.length → Aw n S R → Aw n (runS n t y set l j k S) (runS n t y set l j k R)
  | 0, _, _, _, _, h => h
  | j + 1, k, S, R, hk, h => runS_aw hn ho j (k + 1) _ _ (by omega) (evS_aw h hn (ho k (by omega)))
/-- a hint or a stranger, as the class has it: the day of the law is left -/
def ch (b : Bool) (p : Nat) (S : SS) : SS := if b = true then ((think p S).1, (think p S).2.1, voi p (think p S), (think p S).2.2.2) else strg p S
theorem ch_aw {n p : Nat} {b : Bool} {d : Int32} {S R : SS} (h : Aw n S R) (hp : p < 8) : Aw n (ch b p S) (actOne d (b, p + 1) R) := by
  rw [ch, actOne, if_neg (show ¬ p + 1 = 0 by omega)]
  cases b with
  | true =>
    rw [if_pos rfl, if_pos rfl]
    have h1 := think_aw h hp
    obtain ⟨b1, b2, b3⟩ := @speak_voi p d (think p R)
    show Aw n _ (speak p d (think p R))
    refine ⟨?_, ?_, ?_⟩
    · rw [b1]; exact h1.1
    · rw [b2]; exact h1.2.1
    · rw [b3]; exact voi_aw h1 hp
  | false =>
    rw [if_neg Bool.false_ne_true, if_neg Bool.false_ne_true]
    exact strg_aw h hp
/-! the law is as the voices are -/
def LI (S : SS) : Prop := S.2.2.2.2 = 0 ↔ least S.2.2.1 = 0
theorem least_mono {vo : Nat → Int32} {p : Nat} {v : Int32} (h0 : vo p = 0) (h : ¬ least vo = 0) : ¬ least (upd vo p v) = 0 := by
  intro hc
  rw [least_0] at hc
  refine h (least_0.mpr (fun y hy ht => hc y hy ?_))
  obtain ⟨a, b, c, d, e⟩ := ht
  have ka : tA y ≠ p := fun w => b.1 (by rw [w]; exact h0)
  have kb : tB y ≠ p := fun w => b.2.1 (by rw [w]; exact h0)
  have kc : tC y ≠ p := fun w => b.2.2 (by rw [w]; exact h0)
  rw [tri, upd_n ka, upd_n kb, upd_n kc]
  exact ⟨a, b, c, d, e⟩
theorem LI_think {p : Nat} {S : SS} (h : LI S) : LI (think p S) := by
  rw [think]; split <;> exact h
theorem LI_mk {a b vo : Nat → Int32} {d l : Int32} (h : l = 0 ↔ least vo = 0) : LI (a, b, vo, d, l) := h
theorem LI_speak {p : Nat} {d : Int32} {S : SS} (h : LI S) : LI (speak p d S) := by
  rw [speak]
  split
  · rename_i h0
    split
    · exact LI_mk Iff.rfl
    · rename_i h3
      exact ⟨fun z => absurd z h3, fun z => absurd z (least_mono h0 (fun w => h3 (h.mpr w)))⟩
  · exact h
theorem LI_ev {n t : Nat} {y m : Int32} {e : Ev} {S : SS} (h : LI S) : LI (evS n t y m e S) := by
  rw [evS]
  split
  · exact h
  · split
    · split <;> exact h
    · split
      · split
        · exact LI_think h
        · exact h
      · split
        · split
          · exact LI_speak (LI_think h)
          · exact h
        · split <;> exact h
theorem LI_run {n t : Nat} {y set : Int32} {l : List Ev} : ∀ (j k : Nat) (S : SS), LI S → LI (runS n t y set l j k S)
  | 0, _, _, h => h
  | j + 1, k, _, h => LI_run j (k + 1) _ (LI_ev h)
theorem LI_one {d : Int32} {x : Bool × Nat} {S : SS} (h : LI S) : LI (actOne d x S) := by
  rw [actOne]
  split
  · exact h
  · split
    · exact LI_speak (LI_think h)
    · exact h
theorem LI_init {P : List Nat} : LI (init P) := by
  refine ⟨fun _ => least_none (fun y _ h => h.2.1.1 rfl), fun _ => rfl⟩
theorem LI_pre {A : Ab} {set : Int32} {f t : Nat} : LI (pre A set f t) := LI_run _ _ _ LI_init
/-! who has a voice has it -/
def Vf (S : SS) : Prop := ∀ p, p < 8 → ¬ S.2.2.1 p = 0 → ¬ S.2.1 p = 0
theorem or_n0 {x y : Int32} (h : ¬ x = 0) : ¬ x ||| y = 0 := by
  intro z
  have := (and_or_0 (-1) x y).mp (by rw [z]; exact Int32.and_zero)
  rw [Int32.neg_one_and] at this
  exact h this.1
theorem Vf_think {p : Nat} {S : SS} (h : Vf S) (hp : p < 8) : Vf (think p S) ∧ ¬ (think p S).2.1 p = 0 := by
  rw [think]
  split
  · refine ⟨fun q hq hv => ?_, ?_⟩
    · show ¬ upd S.2.1 p (one p) q = 0
      by_cases e : q = p
      · subst e; rw [upd_s]; exact one_n0 q hq
      · rw [upd_n e]; exact h q hq hv
    · show ¬ upd S.2.1 p (one p) p = 0
      rw [upd_s]; exact one_n0 p hp
  · rename_i h0; exact ⟨h, h0⟩
theorem Vf_voi {p : Nat} {S R : SS} (h : Vf S) (h0 : ¬ S.2.1 p = 0) (e1 : R.2.1 = S.2.1) (e2 : R.2.2.1 = voi p S) : Vf R := by
  intro q hq hv
  rw [e1]
  rw [e2, voi] at hv
  split at hv
  · by_cases e : q = p
    · subst e; exact h0
    · rw [upd_n e] at hv; exact h q hq hv
  · exact h q hq hv
theorem Vf_or {S R : SS} {g : Nat → Int32} (h : Vf S) (e1 : ∀ q, q < 8 → R.2.1 q = S.2.1 q ∨ R.2.1 q = S.2.1 q ||| g q) (e2 : R.2.2.1 = S.2.2.1) : Vf R := by
  intro q hq hv
  rw [e2] at hv
  rcases e1 q hq with e | e
  · rw [e]; exact h q hq hv
  · rw [e]; exact or_n0 (h q hq hv)
theorem Vf_speak {p : Nat} {d : Int32} {S : SS} (h : Vf S) (hp : p < 8) : Vf (speak p d (think p S)) := by
  obtain ⟨a, b⟩ := Vf_think h hp
  obtain ⟨-, b2, b3⟩ := @speak_voi p d (think p S)
  exact Vf_voi a b b2 b3
theorem Vf_talk {a b : Nat} {S : SS} (h : Vf S) : Vf (talk a b S) := Vf_or (g := fun _ => S.2.1 a) h (fun q _ => by
  show upd S.2.1 b (S.2.1 b ||| S.2.1 a) q = _ ∨ upd S.2.1 b (S.2.1 b ||| S.2.1 a) q = _
  by_cases e : q = b
  · subst e; rw [upd_s]; exact Or.inr rfl
  · rw [upd_n e]; exact Or.inl rfl) rfl
theorem Vf_strg {b : Nat} {S : SS} (h : Vf S) : Vf (strg b S) := Vf_or (g := fun _ => 256) h (fun q _ => by
  show upd S.2.1 b (S.2.1 b ||| 256) q = _ ∨ upd S.2.1 b (S.2.1 b ||| 256) q = _
  by_cases e : q = b
  · subst e; rw [upd_s]; exact Or.inr rfl
  · rw [upd_n e]; exact Or.inl rfl) rfl
theorem Vf_hear {n p : Nat} {S : SS} (h : Vf S) : Vf (hear n p S) := Vf_or (g := fun _ => S.2.1 p) h (fun q _ => by
  show (if q < n ∧ S.1 q = S.1 p then S.2.1 q ||| S.2.1 p else S.2.1 q) = _ ∨ (if q < n ∧ S.1 q = S.1 p then S.2.1 q ||| S.2.1 p else S.2.1 q) = _
  split
  · exact Or.inr rfl
  · exact Or.inl rfl) rfl
theorem Vf_ev {n t : Nat} {y m : Int32} {e : Ev} {S : SS} (h : Vf S) (hn : n ≤ 8) (he : okE n e) : Vf (evS n t y m e S) := by
  obtain ⟨h1, h2, h3, h4⟩ := he
  rw [evS]
  split
  · exact Vf_talk h
  · split
    · split
      · exact h
      · exact Vf_talk h
    · split
      · split
        · exact (Vf_think h (by omega)).1
        · exact h
      · split
        · split
          · exact Vf_hear (Vf_speak h (by omega))
          · exact h
        · split <;> exact h
theorem Vf_run {n t : Nat} {y set : Int32} {l : List Ev} (hn : n ≤ 8) (ho : ∀ k, k < l.length → okE n (ge l k)) : ∀ (j k : Nat) (S : SS), k + j ≤ l.length → Vf S → Vf (runS n t y set l j k S)
  | 0, _, _, _, h => h
  | j + 1, k, S, hk, h => Vf_run hn ho j (k + 1) _ (by omega) (Vf_ev h hn (ho k (by omega)))
theorem Vf_init {P : List Nat} : Vf (init P) := fun _ _ h => absurd rfl h
/-! ===== the first event from a day on ===== -/
def fst (l : List Ev) (d : Nat) : Nat := l.findIdx (fun e => decide (d ≤ e.2.1))
theorem fst_le {l : List Ev} {d : Nat} : fst l d ≤ l.length := List.findIdx_le_length
theorem fst_lt {l : List Ev} {d i : Nat} (h : i < fst l d) : (ge l i).2.1 < d := by
  have hl := @fst_le l d
  have := List.not_of_lt_findIdx (p := fun e : Ev => decide (d ≤ e.2.1)) (xs := l) h
  rw [ge_get (by omega)]
  simp only [decide_eq_false_iff_not] at this
  omega
theorem fst_at {l : List Ev} {d : Nat} (h : fst l d < l.length) : d ≤ (ge l (fst l d)).2.1 := by
  have := List.findIdx_getElem (p := fun e : Ev => decide (d ≤ e.2.1)) (xs := l) (w := h)
  rw [ge_get h]
  exact of_decide_eq_true this
theorem fst_eq {l : List Ev} {d f : Nat} (h1 : f ≤ l.length) (h2 : ∀ i, i < f → (ge l i).2.1 < d) (h3 : f < l.length → d ≤ (ge l f).2.1) : f = fst l d := by
  have hl := @fst_le l d
  rcases Nat.lt_trichotomy f (fst l d) with z | z | z
  · have := fst_lt z; have := h3 (by omega); omega
  · exact z
  · have := h2 _ z; have := fst_at (l := l) (d := d) (by omega); omega
theorem C_first {E : EV} {Q : Sg → Int32 → Prop} {σ : Sg} {n d : Nat} {T : Tl} (hE : EvC σ 5 T) (hg : okTl n T) (hd : d ≤ 99) (hq : Q σ (nI (fst T.1 d))) : MetI E mi_X0_firstFrom [.ref 5, .int (nI d)] σ Q := by
  have hL := hg.1
  have go : ∀ (j k : Nat), k + j = T.1.length → (∀ i, i < k → (ge T.1 i).2.1 < d) → K_X0_firstFrom_5_2 E Q σ (nI d) (nI k) := by
    intro j
    induction j with
    | zero =>
      intro k hk hl
      obtain rfl : k = T.1.length := by omega
      refine B_X0_firstFrom_5_2 ⟨fun _ => ?_, fun q => absurd (by rw [hE.gi5.1]; exact nI_le (Nat.le_refl _) (by omega)) q⟩
      rw [hE.gi5.1, fst_eq (Nat.le_refl _) hl (fun z => absurd z (by omega))]
      exact hq
    | succ j ih =>
      intro k hk hl
      have g2 : gm σ 7 k = nI (ge T.1 k).2.1 := (hE.2.2.2 k (by omega)).2.1
      have b1 := hg.2.2.2.2.2 k (by omega)
      have b2 := hg.2.2.1
      refine B_X0_firstFrom_5_2 ⟨fun q => absurd q (by rw [hE.gi5.1]; exact nI_ge (by omega) (by omega)), fun _ => ⟨vpn (by omega) (by omega), fun q => ?_, fun q => ?_⟩⟩
      all_goals rw [cl (by omega), g2, Int32.lt_iff_toInt_lt, nIt (by omega), nIt (by omega)] at q
      · rw [nI_1]
        refine ih (k + 1) (by omega) (fun i hi => ?_)
        rcases (show i < k ∨ i = k by omega) with z | z
        · exact hl i z
        · subst z; omega
      · rw [← fst_eq (l := T.1) (d := d) (f := k) (by omega) hl (fun _ => by omega)] at hq
        exact hq
  exact M_X0_firstFrom_5 (go T.1.length 0 (by omega) (fun i hi => absurd hi (by omega)))
theorem C_day {E : EV} {Q : Sg → Int32 → Prop} {σ : Sg} {d : Int32} (hq : Q σ (bi (0 ≤ d.toInt ∧ d.toInt ≤ 99))) : MetI E mi_X5_isDay [.int d] σ Q := by
  have e99 : (99 : Int32).toInt = 99 := by decide
  refine M_X5_isDay ⟨fun h => ?_, fun h => ⟨fun h2 => ?_, fun h2 => ?_⟩⟩
  all_goals rw [Int32.lt_iff_toInt_lt, iv_0] at h
  · exact q0 hq (by omega)
  all_goals rw [Int32.lt_iff_toInt_lt, e99] at h2
  · exact q0 hq (by omega)
  · exact q1 hq (by omega)
