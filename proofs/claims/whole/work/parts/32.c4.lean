/-! ===== the class: saying, playing, beginning ===== -/
theorem least_upd_z {n p : Nat} {vo : Nat → Int32} {v : Int32} (hz : ∀ q, n ≤ q → q < 8 → vo q = 0) (hp : p < n) : ∀ q, n ≤ q → q < 8 → upd vo p v q = 0 := fun q h1 h2 => by rw [upd_n (by omega)]; exact hz q h1 h2
def Zn (n : Nat) (S : SS) : Prop := ∀ q, n ≤ q → q < 8 → S.2.2.1 q = 0
theorem Zn_think {n p : Nat} {S : SS} (h : Zn n S) : Zn n (think p S) := by
  rw [think]; split <;> exact h
theorem Zn_speak {n p : Nat} {d : Int32} {S : SS} (h : Zn n S) (hp : p < n) : Zn n (speak p d S) := by
  have u := least_upd_z (v := S.2.1 p) h hp
  rw [speak]; split
  · split <;> exact u
  · exact h
theorem Zn_say {n p : Nat} {d : Int32} {S : SS} (h : Zn n S) (hp : p < n) : Zn n (say n p d S) := by
  have h2 : Zn n (speak p d (think p S)) := Zn_speak (Zn_think h) hp
  exact h2
theorem Zn.ev {n t : Nat} {y m : Int32} {e : Ev} {S : SS} (h : Zn n S) (he : okE n e) : Zn n (evS n t y m e S) := by
  rw [evS]
  split
  · exact h
  · split
    · split <;> exact h
    · split
      · split
        · exact Zn_think h
        · exact h
      · split
        · split
          · exact Zn_say h he.2.1
          · exact h
        · split <;> exact h
theorem Zn.run {n t : Nat} {y set : Int32} {l : List Ev} (ho : ∀ k, k < l.length → okE n (ge l k)) : ∀ (j k : Nat) (S : SS), k + j ≤ l.length → Zn n S → Zn n (runS n t y set l j k S)
  | 0, _, _, _, h => h
  | j + 1, k, S, hk, h => Zn.run ho j (k + 1) _ (by omega) (h.ev (ho k (by omega)))
theorem hear_0 {p : Nat} {S : SS} : ((S.1, fun q => if q < 0 ∧ S.1 q = S.1 p then S.2.1 q ||| S.2.1 p else S.2.1 q, S.2.2) : SS) = S := by
  have : (fun q => if q < 0 ∧ S.1 q = S.1 p then S.2.1 q ||| S.2.1 p else S.2.1 q) = S.2.1 := funext fun q => if_neg (fun w => Nat.not_lt_zero _ w.1)
  rw [this]
theorem C_hear_36 {E : EV} {Q : Sg → Prop} {n t p : Nat} {y d : Int32} {S : SS} (hb : n ≤ 8) (hp : p < n) : ∀ (j k : Nat) (σ : Sg), k + j = n → StC σ 36 n t y (S.1, fun q => if q < k ∧ S.1 q = S.1 p then S.2.1 q ||| S.2.1 p else S.2.1 q, S.2.2) → (∀ τ, Fr 36 39 σ τ → StC τ 36 n t y (hear n p S) → Q τ) → K_X3_say_36_60 E Q σ (nI p) d (nI k)
  | 0, k, σ, hk, h, hq => by
    obtain rfl : k = n := by omega
    have hn : gi σ 3603 = nI k := h.1.1
    exact B_X3_say_36_60 ⟨fun _ => hq σ Fr.rf h, fun q => absurd (by rw [hn]; exact nI_le (by omega) (by omega)) q⟩
  | j + 1, k, σ, hk, h, hq => by
    have hn : gi σ 3603 = nI n := h.1.1
    have e1 : gm σ 37 = S.1 := h.2.1
    have e2 : gm σ 38 = fun q => if q < k ∧ S.1 q = S.1 p then S.2.1 q ||| S.2.1 p else S.2.1 q := h.2.2.1
    refine B_X3_say_36_60 ⟨fun q => absurd q (by rw [hn]; exact nI_ge (by omega) (by omega)), fun _ => ?_⟩
    rw [cl (n := k) (by omega), cl (n := p) (by omega), nI_1, e1]
    refine ⟨vpn (by omega) (by omega), vpn (by omega) (by omega), fun q => ?_, fun q => ?_⟩
    · refine C_hear_36 hb hp j (k + 1) σ (by omega) ?_ hq
      refine ⟨h.1, h.2.1, e2.trans ?_, h.2.2.2⟩
      funext x
      show (if x < k ∧ S.1 x = S.1 p then S.2.1 x ||| S.2.1 p else S.2.1 x) = if x < k + 1 ∧ S.1 x = S.1 p then S.2.1 x ||| S.2.1 p else S.2.1 x
      by_cases z : x = k
      · subst z; rw [if_neg (fun w => q w.2), if_neg (fun w => q w.2)]
      · by_cases w : x < k ∧ S.1 x = S.1 p
        · rw [if_pos w, if_pos ⟨by omega, w.2⟩]
        · rw [if_neg w, if_neg (fun u => w ⟨by omega, u.2⟩)]
    · refine C_hear_36 hb hp j (k + 1) _ (by omega) ?_ (fun τ f => hq τ ((Fr.sm Fr.rf (by omega) (by omega)).tr f))
      refine ⟨h.1, h.2.1, ?_, h.2.2.2⟩
      show upd (gm σ 38) k ((gm σ 38) k ||| (gm σ 38) p) = _
      rw [e2]
      have pp : (if p < k ∧ S.1 p = S.1 p then S.2.1 p ||| S.2.1 p else S.2.1 p) = S.2.1 p := by
        split
        · exact Int32.or_self
        · rfl
      funext x
      by_cases z : x = k
      · subst z
        rw [upd_s]
        show (if x < x ∧ S.1 x = S.1 p then S.2.1 x ||| S.2.1 p else S.2.1 x) ||| (if p < x ∧ S.1 p = S.1 p then S.2.1 p ||| S.2.1 p else S.2.1 p) = if x < x + 1 ∧ S.1 x = S.1 p then S.2.1 x ||| S.2.1 p else S.2.1 x
        rw [pp, if_neg (fun w => Nat.lt_irrefl _ w.1), if_pos ⟨by omega, q⟩]
      · rw [upd_n z]
        by_cases w : x < k ∧ S.1 x = S.1 p
        · show (if x < k ∧ S.1 x = S.1 p then _ else _) = if x < k + 1 ∧ S.1 x = S.1 p then _ else _
          rw [if_pos w, if_pos ⟨by omega, w.2⟩]
        · show (if x < k ∧ S.1 x = S.1 p then _ else _) = if x < k + 1 ∧ S.1 x = S.1 p then _ else _
          rw [if_neg w, if_neg (fun u => w ⟨by omega, u.2⟩)]
theorem C_hear0_36 {E : EV} {Q : Sg → Prop} {n t p : Nat} {y d : Int32} {S : SS} {σ : Sg} (h : StC σ 36 n t y S) (hb : n ≤ 8) (hp : p < n) (hq : ∀ τ, Fr 36 39 σ τ → StC τ 36 n t y (hear n p S) → Q τ) : K_X3_say_36_60 E Q σ (nI p) d 0 :=
  C_hear_36 (t := t) (y := y) hb hp n 0 σ (by omega) (by rw [hear_0]; exact h) hq
theorem C_say_36 {E : EV} {Q : Sg → Prop} {σ : Sg} {n t p : Nat} {y d : Int32} {S : SS} (h : StC σ 36 n t y S) (hb : n ≤ 8) (hp : p < n) (hz : Zn n S) (hq : ∀ τ, Fr 36 39 σ τ → StC τ 36 n t y (say n p d S) → Q τ) : MetV E mi_X3_say [.ref 36, .int (nI p), .int d] σ Q := by
  refine M_X3_say_36 (C_think_36 h (by omega) (fun τ f h1 => ⟨vpn (by omega) (by omega), fun q => ?_, fun q => ⟨fun q2 => ?_, fun q2 => ?_⟩⟩))
  all_goals rw [cl (by omega)] at *
  all_goals have e3 : gm τ 39 = (think p S).2.2.1 := h1.2.2.2.1
  all_goals rw [e3] at q
  · refine C_hear0_36 h1 hb hp (fun υ f2 h2 => hq υ (f.tr f2) ?_)
    rw [say, speak, if_neg q]; exact h2
  · have e7 : gi τ 3607 = (think p S).2.2.2.2 := h1.2.2.2.2.2
    rw [e7] at q2
    have hS : StC (sm τ 39 p (gm τ 38 p)) 36 n t y (speak p d (think p S)) := by
      rw [speak, if_pos q, if_neg q2]
      exact ⟨h1.1, h1.2.1, h1.2.2.1, by show upd (gm τ 39) _ _ = _; rw [e3, show gm τ 38 = (think p S).2.1 from h1.2.2.1], h1.2.2.2.2.1, h1.2.2.2.2.2⟩
    exact C_hear0_36 hS hb hp (fun υ f2 h2 => hq υ (f.tr ((Fr.sm Fr.rf (by omega) (by omega)).tr f2)) h2)
  · have e7 : gi τ 3607 = (think p S).2.2.2.2 := h1.2.2.2.2.2
    have e2 : gm τ 38 = (think p S).2.1 := h1.2.2.1
    rw [e7] at q2
    have ev : gm (sm τ 39 p (gm τ 38 p)) 39 = upd (think p S).2.2.1 p ((think p S).2.1 p) := by rw [gm_sm_s, e3, e2]
    have fin : ∀ r6 : Int32, r6 = lawOf d (least (upd (think p S).2.2.1 p ((think p S).2.1 p))) → K_X3_say_36_60 E Q (si (si (sm τ 39 p (gm τ 38 p)) 3607 (least (upd (think p S).2.2.1 p ((think p S).2.1 p)))) 3606 r6) (nI p) d 0 := by
      intro r6 h6
      have hS : StC (si (si (sm τ 39 p (gm τ 38 p)) 3607 (least (upd (think p S).2.2.1 p ((think p S).2.1 p)))) 3606 r6) 36 n t y (speak p d (think p S)) := by
        rw [speak, if_pos q, if_pos q2]
        refine ⟨h1.1, h1.2.1, h1.2.2.1, ev, ?_, ?_⟩
        · rw [show 100 * 36 + 6 = 3606 from rfl, gi_si_s]; dsimp only; rw [h6]
        · rw [show 100 * 36 + 7 = 3607 from rfl, gi_si_n (by decide), gi_si_s]
      exact C_hear0_36 hS hb hp (fun υ f2 h2 => hq υ (f.tr ((Fr.si (Fr.si (Fr.sm Fr.rf (by omega) (by omega)) (by omega) (by omega)) (by omega) (by omega)).tr f2)) h2)
    refine C_least_36 (n := n) h1.1.1 hb ev (least_upd_z (Zn_think hz) hp) ⟨fun q3 => fin _ (by rw [lawOf, if_neg q3]), fun q3 => fin _ (by rw [lawOf, if_pos q3])⟩
theorem C_hear_32 {E : EV} {Q : Sg → Prop} {n t p : Nat} {y d : Int32} {S : SS} (hb : n ≤ 8) (hp : p < n) : ∀ (j k : Nat) (σ : Sg), k + j = n → StC σ 32 n t y (S.1, fun q => if q < k ∧ S.1 q = S.1 p then S.2.1 q ||| S.2.1 p else S.2.1 q, S.2.2) → (∀ τ, Fr 32 35 σ τ → StC τ 32 n t y (hear n p S) → Q τ) → K_X3_say_32_60 E Q σ (nI p) d (nI k)
  | 0, k, σ, hk, h, hq => by
    obtain rfl : k = n := by omega
    have hn : gi σ 3203 = nI k := h.1.1
    exact B_X3_say_32_60 ⟨fun _ => hq σ Fr.rf h, fun q => absurd (by rw [hn]; exact nI_le (by omega) (by omega)) q⟩
  | j + 1, k, σ, hk, h, hq => by
    have hn : gi σ 3203 = nI n := h.1.1
    have e1 : gm σ 33 = S.1 := h.2.1
    have e2 : gm σ 34 = fun q => if q < k ∧ S.1 q = S.1 p then S.2.1 q ||| S.2.1 p else S.2.1 q := h.2.2.1
    refine B_X3_say_32_60 ⟨fun q => absurd q (by rw [hn]; exact nI_ge (by omega) (by omega)), fun _ => ?_⟩
    rw [cl (n := k) (by omega), cl (n := p) (by omega), nI_1, e1]
    refine ⟨vpn (by omega) (by omega), vpn (by omega) (by omega), fun q => ?_, fun q => ?_⟩
    · refine C_hear_32 hb hp j (k + 1) σ (by omega) ?_ hq
      refine ⟨h.1, h.2.1, e2.trans ?_, h.2.2.2⟩
      funext x
      show (if x < k ∧ S.1 x = S.1 p then S.2.1 x ||| S.2.1 p else S.2.1 x) = if x < k + 1 ∧ S.1 x = S.1 p then S.2.1 x ||| S.2.1 p else S.2.1 x
      by_cases z : x = k
      · subst z; rw [if_neg (fun w => q w.2), if_neg (fun w => q w.2)]
      · by_cases w : x < k ∧ S.1 x = S.1 p
        · rw [if_pos w, if_pos ⟨by omega, w.2⟩]
        · rw [if_neg w, if_neg (fun u => w ⟨by omega, u.2⟩)]
    · refine C_hear_32 hb hp j (k + 1) _ (by omega) ?_ (fun τ f => hq τ ((Fr.sm Fr.rf (by omega) (by omega)).tr f))
      refine ⟨h.1, h.2.1, ?_, h.2.2.2⟩
      show upd (gm σ 34) k ((gm σ 34) k ||| (gm σ 34) p) = _
      rw [e2]
      have pp : (if p < k ∧ S.1 p = S.1 p then S.2.1 p ||| S.2.1 p else S.2.1 p) = S.2.1 p := by
        split
        · exact Int32.or_self
        · rfl
      funext x
      by_cases z : x = k
      · subst z
        rw [upd_s]
        show (if x < x ∧ S.1 x = S.1 p then S.2.1 x ||| S.2.1 p else S.2.1 x) ||| (if p < x ∧ S.1 p = S.1 p then S.2.1 p ||| S.2.1 p else S.2.1 p) = if x < x + 1 ∧ S.1 x = S.1 p then S.2.1 x ||| S.2.1 p else S.2.1 x
        rw [pp, if_neg (fun w => Nat.lt_irrefl _ w.1), if_pos ⟨by omega, q⟩]
      · rw [upd_n z]
        by_cases w : x < k ∧ S.1 x = S.1 p
        · show (if x < k ∧ S.1 x = S.1 p then _ else _) = if x < k + 1 ∧ S.1 x = S.1 p then _ else _
          rw [if_pos w, if_pos ⟨by omega, w.2⟩]
        · show (if x < k ∧ S.1 x = S.1 p then _ else _) = if x < k + 1 ∧ S.1 x = S.1 p then _ else _
          rw [if_neg w, if_neg (fun u => w ⟨by omega, u.2⟩)]
theorem C_hear0_32 {E : EV} {Q : Sg → Prop} {n t p : Nat} {y d : Int32} {S : SS} {σ : Sg} (h : StC σ 32 n t y S) (hb : n ≤ 8) (hp : p < n) (hq : ∀ τ, Fr 32 35 σ τ → StC τ 32 n t y (hear n p S) → Q τ) : K_X3_say_32_60 E Q σ (nI p) d 0 :=
  C_hear_32 (t := t) (y := y) hb hp n 0 σ (by omega) (by rw [hear_0]; exact h) hq
theorem C_say_32 {E : EV} {Q : Sg → Prop} {σ : Sg} {n t p : Nat} {y d : Int32} {S : SS} (h : StC σ 32 n t y S) (hb : n ≤ 8) (hp : p < n) (hz : Zn n S) (hq : ∀ τ, Fr 32 35 σ τ → StC τ 32 n t y (say n p d S) → Q τ) : MetV E mi_X3_say [.ref 32, .int (nI p), .int d] σ Q := by
  refine M_X3_say_32 (C_think_32 h (by omega) (fun τ f h1 => ⟨vpn (by omega) (by omega), fun q => ?_, fun q => ⟨fun q2 => ?_, fun q2 => ?_⟩⟩))
  all_goals rw [cl (by omega)] at *
  all_goals have e3 : gm τ 35 = (think p S).2.2.1 := h1.2.2.2.1
  all_goals rw [e3] at q
  · refine C_hear0_32 h1 hb hp (fun υ f2 h2 => hq υ (f.tr f2) ?_)
    rw [say, speak, if_neg q]; exact h2
  · have e7 : gi τ 3207 = (think p S).2.2.2.2 := h1.2.2.2.2.2
    rw [e7] at q2
    have hS : StC (sm τ 35 p (gm τ 34 p)) 32 n t y (speak p d (think p S)) := by
      rw [speak, if_pos q, if_neg q2]
      exact ⟨h1.1, h1.2.1, h1.2.2.1, by show upd (gm τ 35) _ _ = _; rw [e3, show gm τ 34 = (think p S).2.1 from h1.2.2.1], h1.2.2.2.2.1, h1.2.2.2.2.2⟩
    exact C_hear0_32 hS hb hp (fun υ f2 h2 => hq υ (f.tr ((Fr.sm Fr.rf (by omega) (by omega)).tr f2)) h2)
  · have e7 : gi τ 3207 = (think p S).2.2.2.2 := h1.2.2.2.2.2
    have e2 : gm τ 34 = (think p S).2.1 := h1.2.2.1
    rw [e7] at q2
    have ev : gm (sm τ 35 p (gm τ 34 p)) 35 = upd (think p S).2.2.1 p ((think p S).2.1 p) := by rw [gm_sm_s, e3, e2]
    have fin : ∀ r6 : Int32, r6 = lawOf d (least (upd (think p S).2.2.1 p ((think p S).2.1 p))) → K_X3_say_32_60 E Q (si (si (sm τ 35 p (gm τ 34 p)) 3207 (least (upd (think p S).2.2.1 p ((think p S).2.1 p)))) 3206 r6) (nI p) d 0 := by
      intro r6 h6
      have hS : StC (si (si (sm τ 35 p (gm τ 34 p)) 3207 (least (upd (think p S).2.2.1 p ((think p S).2.1 p)))) 3206 r6) 32 n t y (speak p d (think p S)) := by
        rw [speak, if_pos q, if_pos q2]
        refine ⟨h1.1, h1.2.1, h1.2.2.1, ev, ?_, ?_⟩
        · rw [show 100 * 32 + 6 = 3206 from rfl, gi_si_s]; dsimp only; rw [h6]
        · rw [show 100 * 32 + 7 = 3207 from rfl, gi_si_n (by decide), gi_si_s]
      exact C_hear0_32 hS hb hp (fun υ f2 h2 => hq υ (f.tr ((Fr.si (Fr.si (Fr.sm Fr.rf (by omega) (by omega)) (by omega) (by omega)) (by omega) (by omega)).tr f2)) h2)
    refine C_least_32 (n := n) h1.1.1 hb ev (least_upd_z (Zn_think hz) hp) ⟨fun q3 => fin _ (by rw [lawOf, if_neg q3]), fun q3 => fin _ (by rw [lawOf, if_pos q3])⟩
