/-! ===== the reference: TOKENS ===== -/
theorem TxM.fx {K : List Nat} {lo hi : Nat} {σ τ : Sg} {X : List Nat} (h : TxM σ X) (f : Fx K lo hi σ τ) (hK : 4002 ∉ K) (q : 41 < lo) : TxM τ X := ⟨(f.1 4002 hK).trans h.1, fun k hk => by rw [f.2.2 41 (by omega)]; exact h.2 k hk⟩
theorem R_here {E : EV} {Q : Sg → Int32 → Prop} {σ : Sg} {X : List Nat} {p : Nat} (h : TxM σ X) (hX : okX X) (e : gi σ 4012 = nI p) (hp : p < X.length) (hq : Q σ (nI (gd X p))) : MetI E mi_X6_here [.ref 40] σ Q := by
  have hL := hX.1
  refine M_X6_here ?_
  rw [h.1, e, cl (by omega), h.2 p hp]
  exact ⟨fun z => absurd z (nI_ge hp (by omega)), fun _ => ⟨vpn (by omega) (by omega), hq⟩⟩
theorem R_hereE {E : EV} {Q : Sg → Int32 → Prop} {σ : Sg} {X : List Nat} {p : Nat} (h : TxM σ X) (e : gi σ 4012 = nI p) (hp : X.length ≤ p) (hp2 : p < 2 ^ 31) (hq : Q σ (-1)) : MetI E mi_X6_here [.ref 40] σ Q := by
  refine M_X6_here ?_
  rw [h.1, e]
  exact ⟨fun _ => hq, fun z => absurd (nI_le hp hp2) z⟩
theorem R_inN {E : EV} {Q : Sg → Int32 → Prop} {σ : Sg} {x a b : Nat} (hx : x < 2 ^ 31) (ha : a < 2 ^ 31) (hb : b < 2 ^ 31) (hq : Q σ (bi (a ≤ x ∧ x ≤ b))) : MetI E mi_X6_in [.int (nI x), .int (nI a), .int (nI b)] σ Q := by
  refine R_in ?_
  rw [nIt hx, nIt ha, nIt hb, bi_c (show ((a : Int) ≤ (x : Int) ∧ (x : Int) ≤ (b : Int)) ↔ (a ≤ x ∧ x ≤ b) by omega)]
  exact hq
theorem R_inM {E : EV} {Q : Sg → Int32 → Prop} {σ : Sg} {a b : Nat} (ha : a < 2 ^ 31) (hb : b < 2 ^ 31) (hq : Q σ 0) : MetI E mi_X6_in [.int (-1), .int (nI a), .int (nI b)] σ Q := by
  refine R_in ?_
  rw [nIt ha, nIt hb, show (-1 : Int32).toInt = -1 from by decide, bi_f (by omega)]
  exact hq
theorem R_meaning {E : EV} {Q : Sg → Int32 → Prop} {σ : Sg} {c : Nat} (hc : c < 2 ^ 31) (hq : Q σ (nI (mean c))) : MetI E mi_X6_meaning [.int (nI c)] σ Q := by
  have k : ∀ m, m < 2 ^ 31 → (nI c = nI m ↔ c = m) := fun m hm => nI_eq hc hm
  have k1 := k 13903 (by omega)
  have k2 := k 267413 (by omega)
  have k3 := k 394724 (by omega)
  have k4 := k 6946700 (by omega)
  have k5 := k 10793234 (by omega)
  have k6 := k 232608281 (by omega)
  refine M_X6_meaning ⟨fun z => ?_, fun z1 => ⟨fun z => ?_, fun z2 => ⟨fun z => ?_, fun z3 => ⟨fun z => ?_, fun z4 => ⟨fun z => ?_, fun z5 => ⟨fun z => ?_, fun z6 => ?_⟩⟩⟩⟩⟩⟩
  · rw [k1.mp z] at hq; exact hq
  · rw [k2.mp z] at hq; exact hq
  · rw [k3.mp z] at hq; exact hq
  · rw [k4.mp z] at hq; exact hq
  · rw [k5.mp z] at hq; exact hq
  · rw [k6.mp z] at hq; exact hq
  · rw [mean, if_neg (fun w => z1 (k1.mpr w)), if_neg (fun w => z2 (k2.mpr w)), if_neg (fun w => z3 (k3.mpr w)), if_neg (fun w => z4 (k4.mpr w)), if_neg (fun w => z5 (k5.mpr w)), if_neg (fun w => z6 (k6.mpr w))] at hq
    exact hq
theorem cd_6 {X : List Nat} {s n : Nat} (hl : ∀ i, i < n → isL X (s + i) = true) (hn : n ≤ 6) : cd X s n < 387420489 := by
  have h1 := cd_lt n hl
  have h2 : 27 ^ n ≤ 27 ^ 6 := Nat.pow_le_pow_right (by omega) hn
  omega
theorem R_word {E : EV} {Q : Sg → Prop} {X : List Nat} {s : Nat} {v1 : Int32} (hX : okX X) : ∀ (f n : Nat) (σ : Sg), s + n + f = X.length → TxM σ X → gi σ 4012 = nI (s + n) → gi σ 4013 = nI s → (∀ i, i < n → isL X (s + i) = true) → (∀ τ, Fx [4012, 4013, 4014, 4015] 58 57 σ τ → gi τ 4012 = nI (skF (isL X) f (s + n)) → gi τ 4013 = nI s → gi τ 4014 = nI (mean (cdW X s (skF (isL X) f (s + n)))) → Q τ) → K_X6_next_66 E Q σ v1 (nI (if n ≤ 6 then cd X s n else 0)) := by
  have hL := hX.1
  have fin : ∀ (n : Nat) (σ : Sg), s + n < 2 ^ 31 → gi σ 4012 = nI (s + n) → gi σ 4013 = nI s → (∀ i, i < n → isL X (s + i) = true) → Q (si σ 4014 (nI (mean (cdW X s (s + n))))) → ((((gi σ 4012) - (gi σ 4013)) ≤ (6 : Int32)) → MetI E mi_X6_meaning [.int (nI (if n ≤ 6 then cd X s n else 0))] σ (fun τ9 r10 => Q (si τ9 4014 r10))) ∧ ((¬ ((gi σ 4012) - (gi σ 4013)) ≤ (6 : Int32)) → MetI E mi_X6_meaning [.int (0 : Int32)] σ (fun τ12 r13 => Q (si τ12 4014 r13))) := by
    intro n σ hb e2 e3 hl hk
    have c6 : (gi σ 4012 - gi σ 4013) ≤ (6 : Int32) ↔ n ≤ 6 := by
      rw [e2, e3, pk_sub (by omega), show s + n - s = n by omega, show (6 : Int32) = nI 6 from rfl, nI_leI (by omega) (by omega)]
    rw [c6]
    rw [cdW, show s + n - s = n by omega] at hk
    refine ⟨fun z => ?_, fun z => ?_⟩
    · rw [if_pos z] at hk ⊢
      exact R_meaning (by have := cd_6 hl z; omega) hk
    · rw [if_neg z] at hk
      exact R_meaning (c := 0) (by omega) hk
  intro f
  induction f with
  | zero =>
    intro n σ hn h e2 e3 hl hq
    rw [skF] at hq
    refine B_X6_next_66 (R_hereE h e2 (by omega) (by omega) (R_inM (a := 97) (b := 122) (by omega) (by omega) ⟨fun _ => ?_, fun z => absurd rfl z⟩))
    exact fin n σ (by omega) e2 e3 hl (hq _ (Fx.rf.si (by simp)) e2 e3 gi_si_s)
  | succ f ih =>
    intro n σ hn h e2 e3 hl hq
    have hb := gd_lt hX (s + n)
    rw [skF] at hq
    refine B_X6_next_66 (R_here h hX e2 (by omega) (R_inN (a := 97) (b := 122) (by omega) (by omega) (by omega) ⟨fun z => ?_, fun z => ?_⟩))
    · rw [bi_0] at z
      rw [if_neg (show ¬ isL X (s + n) = true from fun w => z (of_decide_eq_true w))] at hq
      exact fin n σ (by omega) e2 e3 hl (hq _ (Fx.rf.si (by simp)) e2 e3 gi_si_s)
    · rw [bi_n0] at z
      have zl : isL X (s + n) = true := decide_eq_true z
      rw [if_pos zl] at hq
      have hl2 : ∀ i, i < n + 1 → isL X (s + i) = true := fun i hi => by
        rcases (show i < n ∨ i = n by omega) with w | w
        · exact hl i w
        · rw [w]; exact zl
      have next : ∀ v, v = nI (if n + 1 ≤ 6 then cd X s (n + 1) else 0) → K_X6_next_66 E Q (si σ 4012 (gi σ 4012 + 1)) v1 v := by
        intro v hv
        rw [hv, e2, nI_1]
        have f1 : Fx [4012, 4013, 4014, 4015] 58 57 σ (si σ 4012 (nI (s + n + 1))) := Fx.rf.si (by simp)
        exact ih (n + 1) _ (by omega) (h.fx f1 (by simp) (by omega)) gi_si_s e3 hl2 (fun τ f2 => hq τ (f1.tr f2))
      have c6 : (6 : Int32) ≤ (gi σ 4012 - gi σ 4013) ↔ 6 ≤ n := by
        rw [e2, e3, pk_sub (by omega), show s + n - s = n by omega, show (6 : Int32) = nI 6 from rfl, nI_leI (by omega) (by omega)]
      rw [c6]
      refine ⟨fun y => next _ (by rw [if_neg (by omega)]; rfl), fun y => R_here h hX e2 (by omega) (next _ ?_)⟩
      rw [if_pos (show n ≤ 6 by omega), if_pos (show n + 1 ≤ 6 by omega), show (27 : Int32) = nI 27 from rfl, show (96 : Int32) = nI 96 from rfl, pk_mul, nI_add, pk_sub (by omega), cd]
      exact congrArg nI (by omega)
theorem R_digits {E : EV} {Q : Sg → Prop} {X : List Nat} {s : Nat} (hX : okX X) (hs : s < X.length) : ∀ (f p w : Nat) (σ : Sg), p + f = X.length → s ≤ p → w ≤ 999 → TxM σ X → gi σ 4012 = nI p → gi σ 4013 = nI s → gi σ 4015 = nI w → (∀ τ w', Fx [4012, 4013, 4014, 4015] 58 57 σ τ → gi τ 4012 = nI (skF (isD X) f p) → gi τ 4013 = nI s → gi τ 4015 = nI w' → min w' 100 = dv X f p (min w 100) → gi τ 4014 = nI (if dv X f p (min w 100) ≤ 99 ∧ ¬ (gd X s = 48 ∧ 1 < skF (isD X) f p - s) then 7 else 9) → Q τ) → K_X6_next_164 E Q σ (nI (gd X s)) := by
  have hL := hX.1
  have hbs := gd_lt hX s
  have fin : ∀ (p w : Nat) (σ : Sg), s ≤ p → p < 2 ^ 31 → w ≤ 999 → gi σ 4012 = nI p → gi σ 4013 = nI s → gi σ 4015 = nI w → (∀ x : Int32, x = nI (if min w 100 ≤ 99 ∧ ¬ (gd X s = 48 ∧ 1 < p - s) then 7 else 9) → Q (si σ 4014 x)) → (((99 : Int32) < (gi σ 4015)) → Q (si σ 4014 (9 : Int32))) ∧ ((¬ (99 : Int32) < (gi σ 4015)) → ((¬ nI (gd X s) = (48 : Int32)) → Q (si σ 4014 (7 : Int32))) ∧ ((nI (gd X s) = (48 : Int32)) → ((((gi σ 4012) - (gi σ 4013)) ≤ (1 : Int32)) → Q (si σ 4014 (7 : Int32))) ∧ ((¬ ((gi σ 4012) - (gi σ 4013)) ≤ (1 : Int32)) → Q (si σ 4014 (9 : Int32))))) := by
    intro p w σ hp hp2 hw e2 e3 e5 hk
    have c99 : (99 : Int32) < gi σ 4015 ↔ 99 < w := by rw [e5, show (99 : Int32) = nI 99 from rfl, nI_ltI (by omega) (by omega)]
    have c1 : (gi σ 4012 - gi σ 4013) ≤ (1 : Int32) ↔ p - s ≤ 1 := by rw [e2, e3, pk_sub hp, show (1 : Int32) = nI 1 from rfl, nI_leI (by omega) (by omega)]
    have c48 : nI (gd X s) = (48 : Int32) ↔ gd X s = 48 := ⟨fun z => inj_nI (by omega) (by omega) z, fun z => by rw [z]; rfl⟩
    rw [c99, c1, c48]
    refine ⟨fun z => hk _ (by rw [if_neg (fun u => by have := u.1; omega)]; rfl), fun z => ⟨fun y => hk _ (by rw [if_pos ⟨by omega, fun u => y u.1⟩]; rfl), fun y => ⟨fun x => hk _ (by rw [if_pos ⟨by omega, fun u => by omega⟩]; rfl), fun x => hk _ (by rw [if_neg (fun u => u.2 ⟨y, by omega⟩)]; rfl)⟩⟩⟩
  intro f
  induction f with
  | zero =>
    intro p w σ hp hsp hw h e2 e3 e5 hq
    refine B_X6_next_164 (R_hereE h e2 (by omega) (by omega) (R_inM (a := 48) (b := 57) (by omega) (by omega) ⟨fun _ => ?_, fun z => absurd rfl z⟩))
    exact fin p w σ hsp (by omega) hw e2 e3 e5 (fun x hx => hq _ w (Fx.rf.si (by simp)) e2 e3 e5 rfl (by rw [gi_si_s, hx]; rfl))
  | succ f ih =>
    intro p w σ hp hsp hw h e2 e3 e5 hq
    have hb := gd_lt hX p
    rw [skF, dv] at hq
    refine B_X6_next_164 (R_here h hX e2 (by omega) (R_inN (a := 48) (b := 57) (by omega) (by omega) (by omega) ⟨fun z => ?_, fun z => ?_⟩))
    · rw [bi_0] at z
      have zd : ¬ isD X p = true := fun u => z (of_decide_eq_true u)
      rw [if_neg zd, if_neg zd] at hq
      exact fin p w σ hsp (by omega) hw e2 e3 e5 (fun x hx => hq _ w (Fx.rf.si (by simp)) e2 e3 e5 rfl (by rw [gi_si_s, hx]))
    · rw [bi_n0] at z
      have zd : isD X p = true := decide_eq_true z
      rw [if_pos zd, if_pos zd] at hq
      have next : ∀ (v : Int32) (w2 : Nat), v = nI w2 → w2 ≤ 999 → min w2 100 = min (10 * min w 100 + (gd X p - 48)) 100 → K_X6_next_164 E Q (si (si σ 4015 v) 4012 (gi σ 4012 + 1)) (nI (gd X s)) := by
        intro v w2 hv h9 hm
        rw [hv, e2, nI_1]
        have f1 : Fx [4012, 4013, 4014, 4015] 58 57 σ (si (si σ 4015 (nI w2)) 4012 (nI (p + 1))) := (Fx.rf.si (by simp)).si (by simp)
        refine ih (p + 1) w2 _ (by omega) (by omega) h9 (h.fx f1 (by simp) (by omega)) gi_si_s e3 rfl (fun τ w' f2 a1 a2 a3 a4 a5 => ?_)
        rw [hm] at a4 a5
        exact hq τ w' (f1.tr f2) a1 a2 a3 a4 a5
      have c99 : gi σ 4015 ≤ (99 : Int32) ↔ w ≤ 99 := by rw [e5, show (99 : Int32) = nI 99 from rfl, nI_leI (by omega) (by omega)]
      rw [c99]
      refine ⟨fun y => R_here h hX e2 (by omega) (next _ (10 * w + (gd X p - 48)) ?_ (by omega) (by rw [Nat.min_eq_left (a := w) (by omega)])), fun y => next _ w e5 hw (by omega)⟩
      rw [e5, show (10 : Int32) = nI 10 from rfl, show (48 : Int32) = nI 48 from rfl, pk_mul, nI_add, pk_sub (by omega)]
      exact congrArg nI (by omega)
