/-! ===== the reference: one event for all things ===== -/
theorem R_talk {E : EV} {Q : Sg → Prop} {n a b : Nat} {v1 : Int32} {F : Nat → SS} (ha : a < 8) (hb : b < 8) : ∀ (j t : Nat) (σ : Sg), t + j = 4 → AllM σ n (fun x => if x < t then talk a b (F x) else F x) → (∀ τ, Fx [] 52 52 σ τ → AllM τ n (fun x => talk a b (F x)) → Q τ) → K_X6_goEvent_36 E Q σ v1 (nI a) (nI b) (nI t)
  | 0, t, σ, hj, h, hq => by
    obtain rfl : t = 4 := by omega
    exact B_X6_goEvent_36 ⟨fun _ => hq σ Fx.rf (h.cg (fun x hx => if_pos hx)), fun z => absurd (by decide) z⟩
  | j + 1, t, σ, hj, h, hq => by
    have ht : t < 4 := by omega
    have hS : StM σ n t (if t < t then talk a b (F t) else F t) := h t ht
    rw [if_neg (Nat.lt_irrefl t)] at hS
    refine B_X6_goEvent_36 ⟨fun z => absurd z (nI_ge (a := t) (b := 4) (by omega) (by omega)), fun _ => ?_⟩
    rw [mul4, mul4, cl (n := 4 * b + t) (by omega), cl (n := 4 * a + t) (by omega), nI_1, hS.2.1 b hb, hS.2.1 a ha]
    refine ⟨vpn (by omega) (by omega), vpn (by omega) (by omega), ?_⟩
    refine R_talk ha hb j (t + 1) _ (by omega) ((h.fr (b := b) (v := (F t).2.1 b ||| (F t).2.1 a) ht).cg (fun x hx => ?_)) (fun τ f => hq τ ((Fx.sm Fx.rf (by omega) (by omega)).tr f))
    by_cases e : x = t
    · subst e; rw [updF_s, if_neg (Nat.lt_irrefl x), if_pos (by omega)]; rfl
    · rw [updF_n e]
      by_cases y : x < t
      · rw [if_pos y, if_pos (by omega)]
      · rw [if_neg y, if_neg (by omega)]
theorem R_hear {E : EV} {Q : Sg → Prop} {n a t : Nat} {v1 : Int32} {F : Nat → SS} (hn : n ≤ 8) (ha : a < n) (ht : t < 4) : ∀ (j k : Nat) (σ : Sg), k + j = n → gm σ 42 0 = nI n → AllM σ n (updF F t ((F t).1, fun q => if q < k ∧ (F t).1 q = (F t).1 a then (F t).2.1 q ||| (F t).2.1 a else (F t).2.1 q, (F t).2.2)) → (∀ τ, Fx [] 52 52 σ τ → AllM τ n (updF F t (hear n a (F t))) → Q τ) → K_X6_goEvent_126 E Q σ v1 (nI a) (nI t) (nI k)
  | 0, k, σ, hj, h42, h, hq => by
    obtain rfl : k = n := by omega
    exact B_X6_goEvent_126 ⟨fun _ => hq σ Fx.rf h, fun z => absurd (by rw [h42]; exact nI_le (Nat.le_refl k) (by omega)) z⟩
  | j + 1, k, σ, hj, h42, h, hq => by
    have hS := h t ht
    rw [updF_s] at hS
    have ek : gm σ 52 (4 * k + t) = (F t).2.1 k := (hS.2.1 k (by omega)).trans (if_neg (fun w => Nat.lt_irrefl k w.1))
    have ea : gm σ 52 (4 * a + t) = (F t).2.1 a := by
      refine (hS.2.1 a (by omega)).trans ?_
      show (if a < k ∧ (F t).1 a = (F t).1 a then (F t).2.1 a ||| (F t).2.1 a else (F t).2.1 a) = _
      split
      · exact Int32.or_self
      · rfl
    have e1 : gm σ 51 k = (F t).1 k := hS.1 k (by omega)
    have e2 : gm σ 51 a = (F t).1 a := hS.1 a ha
    have next : ∀ v, v = (if (F t).1 k = (F t).1 a then (F t).2.1 k ||| (F t).2.1 a else (F t).2.1 k) → K_X6_goEvent_126 E Q (sm σ 52 (4 * k + t) v) v1 (nI a) (nI t) (nI (k + 1)) := by
      intro v hv
      refine R_hear hn ha ht j (k + 1) _ (by omega) h42 ((h.fr (b := k) (v := v) ht).cg (fun x hx => ?_)) (fun τ f => hq τ ((Fx.sm Fx.rf (by omega) (by omega)).tr f))
      by_cases e : x = t
      · subst e
        rw [updF_s, updF_s, updF_s]
        refine Prod.ext rfl (Prod.ext ?_ rfl)
        funext q
        show upd (fun q => if q < k ∧ (F x).1 q = (F x).1 a then (F x).2.1 q ||| (F x).2.1 a else (F x).2.1 q) k v q = if q < k + 1 ∧ (F x).1 q = (F x).1 a then (F x).2.1 q ||| (F x).2.1 a else (F x).2.1 q
        by_cases z : q = k
        · subst z
          rw [upd_s, hv]
          by_cases w : (F x).1 q = (F x).1 a
          · rw [if_pos w, if_pos ⟨by omega, w⟩]
          · rw [if_neg w, if_neg (fun u => w u.2)]
        · rw [upd_n z]
          by_cases w : q < k ∧ (F x).1 q = (F x).1 a
          · rw [if_pos w, if_pos ⟨by omega, w.2⟩]
          · rw [if_neg w, if_neg (fun u => w ⟨by omega, u.2⟩)]
      · rw [updF_n e, updF_n e, updF_n e]
    refine B_X6_goEvent_126 ⟨fun z => absurd z (by rw [h42]; exact nI_ge (by omega) (by omega)), fun _ => ?_⟩
    rw [mul4, mul4, cl (n := 4 * k + t) (by omega), cl (n := 4 * a + t) (by omega), cl (n := k) (by omega), cl (n := a) (by omega), nI_1, ek, ea, e1, e2]
    refine ⟨vpn (by omega) (by omega), vpn (by omega) (by omega), vpn (by omega) (by omega), fun z => next _ ?_, fun z => ⟨vpn (by omega) (by omega), next _ ?_⟩⟩
    · rw [if_neg z, Int32.or_zero]
    · rw [if_pos z]
theorem hear_0' {n p : Nat} {S : SS} : ((S.1, fun q => if q < 0 ∧ S.1 q = S.1 p then S.2.1 q ||| S.2.1 p else S.2.1 q, S.2.2) : SS) = S := hear_0
/-- who stays, by the day of an event -/
def stayY (keeper actDay : Int32) (e : Ev) : Int32 := if actDay ≤ nI e.2.1 then keeper else -9
theorem R_goEvent {E : EV} {Q : Sg → Prop} {σ : Sg} {n k : Nat} {T : Tl} {F : Nat → SS} (hn : n ≤ 8) (h42 : gm σ 42 0 = nI n) (hE : EvM σ 0 T) (hg : okTl n T) (hk : k < T.1.length) (h : AllM σ n F) (hq : ∀ τ, Fx [] 51 55 σ τ → AllM τ n (fun t => evS n t (stayY (gi σ 4027) (gi σ 4026) (ge T.1 k)) 1 (ge T.1 k) (F t)) → Q τ) : MetV E mi_X6_goEvent [.ref 40, .int (nI k)] σ Q := by
  have hL := hg.1
  obtain ⟨g1, g2, g3, g4⟩ := hE.2.2 k hk
  simp only [Nat.mul_zero, Nat.zero_add] at g1 g2 g3 g4
  obtain ⟨o1, o2, o3, o4⟩ := ev_ge hg hk
  have mv : Fx [] 51 55 σ (sm σ 51 (ge T.1 k).2.2.1 (nI (ge T.1 k).2.2.2)) := Fx.sm Fx.rf (by omega) (by omega)
  have hmove : ¬ nI (ge T.1 k).2.2.1 = stayY (gi σ 4027) (gi σ 4026) (ge T.1 k) → (ge T.1 k).1 = 4 → Q (sm σ 51 (nI (ge T.1 k).2.2.1).toNatClampNeg (nI (ge T.1 k).2.2.2)) := by
    intro z h4
    rw [cl (by omega)]
    refine hq _ mv (fun t ht => ?_)
    obtain ⟨k1, k2, k3, k4⟩ := h t ht
    show StM _ n t (evS n t (stayY (gi σ 4027) (gi σ 4026) (ge T.1 k)) 1 (ge T.1 k) (F t))
    rw [evS, if_neg (by omega), if_neg (by omega), if_neg (by omega), if_neg (by omega), if_neg z]
    exact ⟨fun p hp => by rw [gm_sm_s]; exact upd_al k1 p hp, k2, k3, k4⟩
  have htalk : (ge T.1 k).1 ≤ 1 → K_X6_goEvent_36 E Q σ (nI k) (nI (ge T.1 k).2.2.1) (nI (ge T.1 k).2.2.2) 0 := by
    intro hs
    refine R_talk (F := F) (by omega) (by have := (o3 hs).1; omega) 4 0 σ rfl (h.cg (fun x _ => (if_neg (Nat.not_lt_zero x)).symm)) (fun τ f hA => hq τ (f.mono (fun k hk => absurd hk List.not_mem_nil) (by omega) (by omega)) (hA.cg (fun x _ => ?_)))
    show talk _ _ (F x) = evS n x _ 1 _ (F x)
    rcases (show (ge T.1 k).1 = 0 ∨ (ge T.1 k).1 = 1 by omega) with z | z
    · rw [evS, if_pos z]
    · rw [evS, if_neg (by omega), if_pos z, if_neg (by decide)]
  refine M_X6_goEvent ?_
  rw [cl (n := k) (by omega), g1, g2, g3, g4]
  refine ⟨vpn (by omega) (by omega), fun z => htalk ?_, fun z => ⟨fun z2 => ⟨fun z3 => ⟨fun z4 => ⟨fun z5 => ⟨vpn (by omega) (by omega), ?_⟩, fun z5 => ⟨fun z6 => ?_, fun z6 => ⟨vpn (by omega) (by omega), ?_⟩⟩⟩, fun z4 => ?_⟩, fun z3 => ?_⟩, fun z2 => htalk ?_⟩⟩
  · have := inj_nI (b := 0) (by omega) (by omega) z; omega
  · have n4 : (ge T.1 k).1 = 4 := by
      have a0 : (ge T.1 k).1 ≠ 0 := fun w => z (by rw [w]; rfl)
      have a1 : (ge T.1 k).1 ≠ 1 := fun w => z2 (by rw [w]; rfl)
      have a2 : (ge T.1 k).1 ≠ 2 := fun w => z3 (by rw [w]; rfl)
      have a3 : (ge T.1 k).1 ≠ 3 := fun w => z4 (by rw [w]; rfl)
      omega
    refine hmove (fun w => ?_) n4
    rw [stayY] at w
    split at w
    · exact z5 w
    · exact absurd (show (nI (ge T.1 k).2.2.1).toInt = (-9 : Int32).toInt by rw [w]) (by rw [nIt (by omega), iv_m9]; omega)
  · have n4 : (ge T.1 k).1 = 4 := by
      have a0 : (ge T.1 k).1 ≠ 0 := fun w => z (by rw [w]; rfl)
      have a1 : (ge T.1 k).1 ≠ 1 := fun w => z2 (by rw [w]; rfl)
      have a2 : (ge T.1 k).1 ≠ 2 := fun w => z3 (by rw [w]; rfl)
      have a3 : (ge T.1 k).1 ≠ 3 := fun w => z4 (by rw [w]; rfl)
      omega
    refine hq σ Fx.rf (h.cg (fun x _ => ?_))
    show F x = evS n x _ 1 _ (F x)
    rw [evS, if_neg (by omega), if_neg (by omega), if_neg (by omega), if_neg (by omega), if_pos (by rw [stayY, if_pos z6]; exact z5)]
  · have n4 : (ge T.1 k).1 = 4 := by
      have a0 : (ge T.1 k).1 ≠ 0 := fun w => z (by rw [w]; rfl)
      have a1 : (ge T.1 k).1 ≠ 1 := fun w => z2 (by rw [w]; rfl)
      have a2 : (ge T.1 k).1 ≠ 2 := fun w => z3 (by rw [w]; rfl)
      have a3 : (ge T.1 k).1 ≠ 3 := fun w => z4 (by rw [w]; rfl)
      omega
    refine hmove (fun w => ?_) n4
    rw [stayY, if_neg z6] at w
    exact absurd (show (nI (ge T.1 k).2.2.1).toInt = (-9 : Int32).toInt by rw [w]) (by rw [nIt (by omega), iv_m9]; omega)
  · have n3 : (ge T.1 k).1 = 3 := inj_nI (by omega) (by omega) z4
    have hb := o4 (by omega)
    refine R_think h (by omega) hb (fun τ f1 h1 => ?_)
    rw [show gm τ 47 k = nI (ge T.1 k).2.1 from by rw [f1.2.2 47 (by omega)]; exact g2]
    have hd9 : ¬ nI (ge T.1 k).2.1 = -9 := fun w => absurd (show (nI (ge T.1 k).2.1).toInt = (-9 : Int32).toInt by rw [w]) (by rw [nIt (by have := hg.2.2.2.2.2 k hk; have := hg.2.2.1; omega), iv_m9]; omega)
    refine R_speak h1 (by omega) hb hd9 (fun τ2 f2 h2 => ?_)
    rw [updF_s] at h2
    refine R_hear (F := updF F (ge T.1 k).2.2.2 (speak (ge T.1 k).2.2.1 (nI (ge T.1 k).2.1) (think (ge T.1 k).2.2.1 (F (ge T.1 k).2.2.2)))) hn o2 hb n 0 τ2 (by omega) (by rw [f2.2.2 42 (by omega), f1.2.2 42 (by omega)]; exact h42) (h2.cg (fun x hx => ?_)) (fun τ3 f3 h3 => hq τ3 (((f1.mono (fun k hk => absurd hk List.not_mem_nil) (by omega) (by omega)).tr (f2.mono (fun k hk => absurd hk List.not_mem_nil) (by omega) (by omega))).tr (f3.mono (fun k hk => absurd hk List.not_mem_nil) (by omega) (by omega))) (h3.cg (fun x hx => ?_)))
    · by_cases e : x = (ge T.1 k).2.2.2
      · rw [e, updF_s, updF_s, updF_s, hear_0]
      · rw [updF_n e, updF_n e, updF_n e, updF_n e]
    · show _ = evS n x _ 1 _ (F x)
      rw [evS, if_neg (by omega), if_neg (by omega), if_neg (by omega), if_pos n3]
      by_cases e : x = (ge T.1 k).2.2.2
      · rw [e, updF_s, updF_s, if_pos rfl]; rfl
      · rw [updF_n e, updF_n e, if_neg (fun w => e w.symm)]
  · have n2 : (ge T.1 k).1 = 2 := inj_nI (by omega) (by omega) z3
    have hb := o4 (by omega)
    refine R_think h (by omega) hb (fun τ f1 h1 => hq τ (f1.mono (fun k hk => absurd hk List.not_mem_nil) (by omega) (by omega)) (h1.cg (fun x hx => ?_)))
    show _ = evS n x _ 1 _ (F x)
    rw [evS, if_neg (by omega), if_neg (by omega), if_pos n2]
    by_cases e : x = (ge T.1 k).2.2.2
    · rw [e, updF_s, if_pos rfl]
    · rw [updF_n e, if_neg (fun w => e w.symm)]
  · have := inj_nI (b := 1) (by omega) (by omega) z2; omega
/-! whether one has anything -/
def anyB (F : Nat → SS) (p : Nat) : Nat → Bool
  | 0 => false
  | t + 1 => anyB F p t || !decide ((F t).2.1 p = 0)
theorem R_hasAny {E : EV} {Q : Sg → Int32 → Prop} {σ : Sg} {n p : Nat} {F : Nat → SS} (h : AllM σ n F) (hp : p < 8) (hq : Q σ (bi (anyB F p 4 = true))) : MetI E mi_X6_hasAny [.ref 40, .int (nI p)] σ Q := by
  have go : ∀ (j t : Nat), t + j = 4 → K_X6_hasAny_4 E Q σ (nI p) (bi (anyB F p t = true)) (nI t) := by
    intro j
    induction j with
    | zero =>
      intro t ht
      obtain rfl : t = 4 := by omega
      exact B_X6_hasAny_4 ⟨fun _ => ⟨bi_01, hq⟩, fun z => absurd (by decide) z⟩
    | succ j ih =>
      intro t ht
      have e := (h t (by omega)).2.1 p hp
      refine B_X6_hasAny_4 ⟨fun z => absurd z (nI_ge (a := t) (b := 4) (by omega) (by omega)), fun _ => ⟨fun z => ?_, fun z => ?_⟩⟩
      · rw [bi_n0] at z
        have := ih (t + 1) (by omega)
        rw [bi_t (show anyB F p (t + 1) = true by rw [anyB, z]; rfl)] at this
        rw [nI_1]; exact this
      · rw [bi_0] at z
        have z : anyB F p t = false := by simpa using z
        have := ih (t + 1) (by omega)
        rw [mul4, cl (by omega), e, nI_1]
        refine ⟨vpn (by omega) (by omega), fun y => ?_, fun y => ?_⟩
        · rw [bi_f (show ¬ anyB F p (t + 1) = true by rw [anyB, z, decide_eq_true y]; decide)] at this; exact this
        · rw [bi_t (show anyB F p (t + 1) = true by rw [anyB, z, decide_eq_false y]; rfl)] at this; exact this
  exact M_X6_hasAny (go 4 0 rfl)
/-! a bit of a set, read in two ways -/
theorem bit_two (set : Int32) {m : Nat} (hm : m < 6) : (set >>> (nI m &&& 31)) &&& 1 = 1 ↔ ¬ (set &&& one m) = 0 := by
  have c1 : ∀ m, m < 6 → ((nI m &&& 31).toBitVec.smod 32).toNat = m := by decide
  have c2 : ∀ m, m < 6 → ∀ i, i < 32 → (one m).toBitVec.getLsbD i = decide (i = m) := by decide +kernel
  have e1 : ((set >>> (nI m &&& 31)) &&& 1 = 1) ↔ set.toBitVec.getLsbD m = true := by
    rw [pk_and (set >>> (nI m &&& 31)) (m := 1) 1 (by decide)]
    have hb : (set >>> (nI m &&& 31)).toBitVec.getLsbD 0 = set.toBitVec.getLsbD m := by
      rw [Int32.toBitVec_shiftRight]
      show (set.toBitVec.sshiftRight ((nI m &&& 31).toBitVec.smod 32).toNat).getLsbD 0 = _
      rw [c1 m hm, BitVec.getLsbD_sshiftRight]
      simp only [Nat.add_zero]
      rw [if_pos (by omega)]
      rfl
    rw [← hb]
    have h2 : (set >>> (nI m &&& 31)).toBitVec.getLsbD 0 = decide ((set >>> (nI m &&& 31)).toBitVec.toNat % 2 = 1) := by
      show Nat.testBit _ 0 = _
      rw [Nat.testBit_zero]
    rw [h2, decide_eq_true_eq]
    generalize (set >>> (nI m &&& 31)).toBitVec.toNat = x
    constructor
    · intro h
      have := inj_nI (a := x % 2 ^ 1) (b := 1) (by omega) (by omega) h
      omega
    · intro h
      rw [show x % 2 ^ 1 = 1 by omega]; rfl
  rw [e1]
  constructor
  · intro h z
    have : (set &&& one m).toBitVec.getLsbD m = true := by
      rw [Int32.toBitVec_and, BitVec.getLsbD_and, h, c2 m hm m (by omega), decide_eq_true rfl]; rfl
    rw [z] at this
    exact absurd this (by rw [(by decide : ∀ i, i < 32 → (Int32.toBitVec 0).getLsbD i = false) m (by omega)]; decide)
  · intro h
    by_cases z : set.toBitVec.getLsbD m = true
    · exact z
    · refine absurd (Int32.toBitVec_inj.mp (BitVec.eq_of_getLsbD_eq (fun i hi => ?_))) h
      rw [Int32.toBitVec_and, BitVec.getLsbD_and, c2 m hm i hi, (by decide : ∀ i, i < 32 → (Int32.toBitVec 0).getLsbD i = false) i hi]
      by_cases e : i = m
      · subst e
        rw [Bool.eq_false_iff.mpr z]; rfl
      · rw [decide_eq_false e, Bool.and_false]
