/-! ===== the reference: all four things at once ===== -/
/-- of the scalars only those of K have changed, of the arrays only lo .. hi -/
def Fx (K : List Nat) (lo hi : Nat) (σ τ : Sg) : Prop := (∀ k, k ∉ K → gi τ k = gi σ k) ∧ (∀ k, gl τ k = gl σ k) ∧ ∀ a, (a < lo ∨ hi < a) → gm τ a = gm σ a
theorem Fx.rf {K : List Nat} {lo hi : Nat} {σ : Sg} : Fx K lo hi σ σ := ⟨fun _ _ => rfl, fun _ => rfl, fun _ _ => rfl⟩
theorem Fx.tr {K : List Nat} {lo hi : Nat} {σ τ υ : Sg} (h1 : Fx K lo hi σ τ) (h2 : Fx K lo hi τ υ) : Fx K lo hi σ υ := ⟨fun k h => (h2.1 k h).trans (h1.1 k h), fun k => (h2.2.1 k).trans (h1.2.1 k), fun k h => (h2.2.2 k h).trans (h1.2.2 k h)⟩
theorem Fx.mono {K K2 : List Nat} {lo hi lo2 hi2 : Nat} {σ τ : Sg} (h : Fx K lo hi σ τ) (hK : ∀ k ∈ K, k ∈ K2) (h1 : lo2 ≤ lo) (h2 : hi ≤ hi2) : Fx K2 lo2 hi2 σ τ := ⟨fun k q => h.1 k (fun z => q (hK k z)), h.2.1, fun a q => h.2.2 a (by omega)⟩
theorem Fx.sm {K : List Nat} {lo hi a i : Nat} {v : Int32} {σ τ : Sg} (h : Fx K lo hi σ τ) (h1 : lo ≤ a) (h2 : a ≤ hi) : Fx K lo hi σ (sm τ a i v) := ⟨h.1, h.2.1, fun b q => by rw [gm_sm_n (by omega)]; exact h.2.2 b q⟩
theorem Fx.si {K : List Nat} {lo hi k : Nat} {v : Int32} {σ τ : Sg} (h : Fx K lo hi σ τ) (hk : k ∈ K) : Fx K lo hi σ (si τ k v) := ⟨fun j q => by rw [gi_si_n (fun z => q (by rw [z]; exact hk))]; exact h.1 j q, h.2.1, h.2.2⟩
theorem Fx.fr {K : List Nat} {lo hi : Nat} {σ τ : Sg} (h : Fx K lo hi σ τ) (hK : ∀ k ∈ K, 4000 ≤ k ∧ k < 4100) (h1 : 40 ≤ lo) (h2 : hi ≤ 57) : Fr 40 57 σ τ := ⟨fun k q => h.1 k (fun z => by have := hK k z; omega), fun k _ => h.2.1 k, fun a q => h.2.2 a (by omega)⟩
theorem RepM.fxT {K : List Nat} {lo hi : Nat} {σ τ : Sg} {A : Ab} (h : RepM σ A) (f : Fx K lo hi σ τ) (hK : 4002 ∉ K) (q : 50 < lo) (hT : TI τ) : RepM τ A := by
  obtain ⟨⟨h1, h1b⟩, ⟨h2, h2b, h2c⟩, ⟨h3, h3b⟩, h4, h5, h6⟩ := h
  have e : ∀ a, a ≤ 50 → gm τ a = gm σ a := fun a ha => f.2.2 a (by omega)
  have ev : ∀ r u, EvM σ r u → EvM τ r u := by
    intro r u ⟨g2, g3, g4⟩
    refine ⟨by rw [e 44 (by omega)]; exact g2, by rw [e 45 (by omega)]; exact g3, fun k hk => ?_⟩
    rw [e 46 (by omega), e 47 (by omega), e 48 (by omega), e 49 (by omega)]; exact g4 k hk
  have im : ∀ i u, ImM σ i u → ImM τ i u := by
    intro i u hu
    cases u with
    | none => show gm τ 50 i = 0; rw [e 50 (by omega)]; exact hu
    | some u => exact ⟨by rw [e 50 (by omega)]; exact hu.1, ev _ _ hu.2⟩
  exact ⟨⟨by rw [e 42 (by omega)]; exact h1, fun k hk => by rw [e 43 (by omega)]; exact h1b k hk⟩, ev _ _ ⟨h2, h2b, h2c⟩, ⟨by rw [f.1 4002 hK]; exact h3, fun k hk => by rw [e 41 (by omega)]; exact h3b k hk⟩, im _ _ h4, im _ _ h5, by rw [f.2.1]; exact h6.1, hT⟩
theorem RepM.fx {K : List Nat} {lo hi : Nat} {σ τ : Sg} {A : Ab} (h : RepM σ A) (f : Fx K lo hi σ τ) (hK : ∀ k ∈ K, k ≠ 4002 ∧ k ≠ 4025) (q : 50 < lo) : RepM τ A :=
  h.fxT f (fun w => (hK _ w).1 rfl) q (by rw [TI, f.1 4025 (fun w => (hK _ w).2 rfl)]; exact h.2.2.2.2.2.2)
def StM (σ : Sg) (n t : Nat) (S : SS) : Prop := (∀ p, p < n → gm σ 51 p = S.1 p) ∧ (∀ p, p < 8 → gm σ 52 (4 * p + t) = S.2.1 p) ∧ (∀ p, p < 8 → gm σ 53 (4 * p + t) = S.2.2.1 p) ∧
  ((S.2.2.2.2 = 0 ∧ S.2.2.2.1 = -9 ∧ gm σ 54 t = -9 ∧ gm σ 55 t = -9) ∨ (¬ S.2.2.2.2 = 0 ∧ gm σ 54 t = S.2.2.2.1 ∧ ¬ S.2.2.2.1 = -9 ∧ gm σ 55 t = S.2.2.2.2))
def AllM (σ : Sg) (n : Nat) (F : Nat → SS) : Prop := ∀ t, t < 4 → StM σ n t (F t)
def updF (F : Nat → SS) (t : Nat) (S : SS) : Nat → SS := fun x => if x = t then S else F x
theorem updF_s {F : Nat → SS} {t : Nat} {S : SS} : updF F t S t = S := if_pos rfl
theorem updF_n {F : Nat → SS} {t x : Nat} {S : SS} (h : x ≠ t) : updF F t S x = F x := if_neg h
theorem AllM.cg {σ : Sg} {n : Nat} {F G : Nat → SS} (h : AllM σ n F) (e : ∀ t, t < 4 → F t = G t) : AllM σ n G := fun t ht => by rw [← e t ht]; exact h t ht
theorem updF_self {F : Nat → SS} {t : Nat} : updF F t (F t) = F := by
  funext x
  by_cases h : x = t
  · subst h; exact updF_s
  · exact updF_n h
/-- an origin is written -/
theorem AllM.fr {σ : Sg} {n t b : Nat} {v : Int32} {F : Nat → SS} (h : AllM σ n F) (ht : t < 4) : AllM (sm σ 52 (4 * b + t) v) n (updF F t ((F t).1, upd (F t).2.1 b v, (F t).2.2)) := by
  intro x hx
  obtain ⟨h1, h2, h3, h4⟩ := h x hx
  by_cases e : x = t
  · subst e
    rw [updF_s]
    refine ⟨h1, fun p hp => ?_, h3, h4⟩
    rw [gm_sm_s]
    by_cases q : p = b
    · subst q; rw [upd_s]; exact upd_s.symm
    · rw [upd_n (by omega)]
      show _ = upd (F x).2.1 b v p
      rw [upd_n q]; exact h2 p hp
  · rw [updF_n e]
    exact ⟨h1, fun p hp => by rw [gm_sm_s, upd_n (by omega)]; exact h2 p hp, h3, h4⟩
theorem AllM.vo {σ : Sg} {n t b : Nat} {v : Int32} {F : Nat → SS} (h : AllM σ n F) (ht : t < 4) : AllM (sm σ 53 (4 * b + t) v) n (updF F t ((F t).1, (F t).2.1, upd (F t).2.2.1 b v, (F t).2.2.2)) := by
  intro x hx
  obtain ⟨h1, h2, h3, h4⟩ := h x hx
  by_cases e : x = t
  · subst e
    rw [updF_s]
    refine ⟨h1, h2, fun p hp => ?_, h4⟩
    rw [gm_sm_s]
    by_cases q : p = b
    · subst q; rw [upd_s]; exact upd_s.symm
    · rw [upd_n (by omega)]
      show _ = upd (F x).2.2.1 b v p
      rw [upd_n q]; exact h3 p hp
  · rw [updF_n e]
    exact ⟨h1, h2, fun p hp => by rw [gm_sm_s, upd_n (by omega)]; exact h3 p hp, h4⟩
theorem mul4 (p t : Nat) : (4 : Int32) * nI p + nI t = nI (4 * p + t) := by rw [show (4 : Int32) = nI 4 from rfl, pk_mul, nI_add]
theorem R_think {E : EV} {Q : Sg → Prop} {σ : Sg} {n p t : Nat} {F : Nat → SS} (h : AllM σ n F) (hp : p < 8) (ht : t < 4) (hq : ∀ τ, Fx [] 52 52 σ τ → AllM τ n (updF F t (think p (F t))) → Q τ) : MetV E mi_X6_think [.ref 40, .int (nI p), .int (nI t)] σ Q := by
  have e := (h t ht).2.1 p hp
  refine M_X6_think ?_
  rw [mul4, cl (by omega), e]
  refine ⟨vpn (by omega) (by omega), fun q => ?_, fun q => ?_⟩
  · refine hq _ (Fx.sm Fx.rf (by omega) (by omega)) ((h.fr ht).cg (fun x _ => ?_))
    rw [think, if_neg q]
    have : upd (F t).2.1 p ((F t).2.1 p) = (F t).2.1 := by
      funext y
      by_cases z : y = p
      · subst z; exact upd_s
      · exact upd_n z
    rw [this]
  · refine hq _ (Fx.sm Fx.rf (by omega) (by omega)) ((h.fr ht).cg (fun x _ => ?_))
    rw [think, if_pos q]; rfl
theorem R_apart {E : EV} {Q : Sg → Int32 → Prop} {σ : Sg} {t a b c : Nat} {vo : Nat → Int32} (hv : ∀ p, p < 8 → gm σ 53 (4 * p + t) = vo p) (ht : t < 4) (ha : a < 8) (hb : b < 8) (hc : c < 8) (hq : Q σ (bi ((¬ vo a = 0 ∧ ¬ vo b = 0 ∧ ¬ vo c = 0) ∧ vo a &&& vo b = 0 ∧ vo a &&& vo c = 0 ∧ vo b &&& vo c = 0))) : MetI E mi_X6_areApart [.ref 40, .int (nI t), .int (nI a), .int (nI b), .int (nI c)] σ Q := by
  refine M_X6_areApart ?_
  rw [mul4, mul4, mul4, cl (n := 4 * a + t) (by omega), cl (n := 4 * b + t) (by omega), cl (n := 4 * c + t) (by omega), hv a ha, hv b hb, hv c hc]
  refine ⟨vpn (by omega) (by omega), vpn (by omega) (by omega), vpn (by omega) (by omega), fun q => q0 hq (fun z => z.1.1 q), fun q => ⟨fun q2 => q0 hq (fun z => z.1.2.1 q2), fun q2 => ⟨fun q3 => q0 hq (fun z => z.1.2.2 q3), fun q3 => ⟨fun q4 => q0 hq (fun z => q4 z.2.1), fun q4 => ⟨fun q5 => q0 hq (fun z => q5 z.2.2.1), fun q5 => ⟨fun q6 => q0 hq (fun z => q6 z.2.2.2), fun q6 => q1 hq ⟨⟨q, q2, q3⟩, q4, q5, q6⟩⟩⟩⟩⟩⟩⟩
theorem R_speak {E : EV} {Q : Sg → Prop} {σ : Sg} {n p t : Nat} {d : Int32} {F : Nat → SS} (h : AllM σ n F) (hp : p < 8) (ht : t < 4) (hd : ¬ d = -9) (hq : ∀ τ, Fx [] 53 55 σ τ → AllM τ n (updF F t (speak p d (F t))) → Q τ) : MetV E mi_X6_speak [.ref 40, .int (nI p), .int (nI t), .int d] σ Q := by
  have ev := (h t ht).2.2.1 p hp
  have ef := (h t ht).2.1 p hp
  -- once there is a law the loops end
  have f37 : ∀ (τ : Sg) (a : Int32), ¬ gm τ 54 t = -9 → Q τ → K_X6_speak_37 E Q τ (nI p) (nI t) d a := fun τ a hl hQ =>
    B_X6_speak_37 ⟨fun _ => hQ, fun _ => ⟨vpn ht (by omega), fun _ => hQ, fun q => absurd (by rw [cl (n := t) (by omega)] at q; exact q) hl⟩⟩
  have f61 : ∀ (τ : Sg) (a b : Int32), ¬ gm τ 54 t = -9 → Q τ → K_X6_speak_61 E Q τ (nI p) (nI t) d a b := fun τ a b hl hQ =>
    B_X6_speak_61 ⟨fun _ => f37 τ _ hl hQ, fun _ => ⟨vpn ht (by omega), fun _ => f37 τ _ hl hQ, fun q => absurd (by rw [cl (n := t) (by omega)] at q; exact q) hl⟩⟩
  have f85 : ∀ (τ : Sg) (a b c : Int32), ¬ gm τ 54 t = -9 → Q τ → K_X6_speak_85 E Q τ (nI p) (nI t) d a b c := fun τ a b c hl hQ =>
    B_X6_speak_85 ⟨fun _ => f61 τ _ _ hl hQ, fun _ => ⟨vpn ht (by omega), fun _ => f61 τ _ _ hl hQ, fun q => absurd (by rw [cl (n := t) (by omega)] at q; exact q) hl⟩⟩
  refine M_X6_speak ?_
  rw [mul4, cl (by omega), ev, ef]
  refine ⟨vpn (by omega) (by omega), fun q => ?_, fun q => ?_⟩
  · have h1 : AllM (sm σ 53 (4 * p + t) ((F t).2.1 p)) n (updF F t ((F t).1, (F t).2.1, upd (F t).2.2.1 p ((F t).2.1 p), (F t).2.2.2)) := h.vo ht
    have fx1 : Fx [] 53 55 σ (sm σ 53 (4 * p + t) ((F t).2.1 p)) := Fx.sm Fx.rf (by omega) (by omega)
    generalize sm σ 53 (4 * p + t) ((F t).2.1 p) = τ at h1 fx1 ⊢
    by_cases h3 : (F t).2.2.2.2 = 0
    · obtain ⟨k1, k2, k3, k4⟩ := h1 t ht
      rw [updF_s] at k1 k2 k3 k4
      have k3 : ∀ x, x < 8 → gm τ 53 (4 * x + t) = upd (F t).2.2.1 p ((F t).2.1 p) x := k3
      have k4 : gm τ 54 t = -9 ∧ gm τ 55 t = -9 := by
        rcases k4 with k4 | k4
        · exact k4.2.2
        · exact absurd h3 k4.1
      have e37 : (gm τ 54) (nI t).toNatClampNeg = -9 := by rw [cl (by omega)]; exact k4.1
      generalize hvo : upd (F t).2.2.1 p ((F t).2.1 p) = vo at h1 k3
      have found : ∀ x, x < 512 → tri vo x → (∀ y, y < x → ¬ tri vo y) → Q (sm (sm τ 54 t d) 55 t (mask3 x)) := by
        intro x hx hx1 hx2
        refine hq _ (Fx.sm (Fx.sm fx1 (by omega) (by omega)) (by omega) (by omega)) (fun y hy => ?_)
        have hl := least_some hx hx1 hx2
        have hn0 := mask3_n0 x hx
        obtain ⟨g1, g2, g3, g4⟩ := h1 y hy
        by_cases e : y = t
        · subst e
          rw [updF_s] at g1 g2 g3 ⊢
          rw [speak, if_pos q, if_pos h3, hvo, hl]
          refine ⟨g1, g2, g3, Or.inr ⟨hn0, ?_, ?_, ?_⟩⟩
          · rw [gm_sm_n (by omega), gm_sm_s, upd_s, lawOf, if_neg hn0]
          · rw [lawOf, if_neg hn0]; exact hd
          · rw [gm_sm_s, upd_s]
        · rw [updF_n e] at g1 g2 g3 g4 ⊢
          refine ⟨g1, g2, g3, ?_⟩
          rw [gm_sm_n (by omega), gm_sm_s, gm_sm_s, gm_sm_n (by omega), upd_n e, upd_n e]
          exact g4
      have nofind : (∀ x, x < 512 → ¬ tri vo x) → Q τ := by
        intro hx
        refine hq _ fx1 (h1.cg (fun y hy => ?_))
        by_cases e : y = t
        · subst e
          rw [updF_s, updF_s, speak, if_pos q, if_pos h3, hvo, least_none hx, lawOf, if_pos rfl]
          have : (F y).2.2.2 = (-9, 0) := by
            have hh := (h y ht).2.2.2
            rcases hh with hh | hh
            · exact Prod.ext hh.2.1 hh.1
            · exact absurd h3 hh.1
          rw [this]
        · rw [updF_n e, updF_n e]
      have l85 : ∀ (j a b c : Nat), c + j = 8 → a < 8 → b < 8 → a < b → b < c → (∀ x, x < 64 * a + 8 * b + c → ¬ tri vo x) → ((∀ x, x < 64 * a + 8 * (b + 1) → ¬ tri vo x) → K_X6_speak_61 E Q τ (nI p) (nI t) d (nI a) (nI (b + 1))) → K_X6_speak_85 E Q τ (nI p) (nI t) d (nI a) (nI b) (nI c) := by
        intro j
        induction j with
        | zero =>
          intro a b c hj ha hb hab hbc hl hk
          obtain rfl : c = 8 := by omega
          refine B_X6_speak_85 ⟨fun _ => ?_, fun z => absurd (by decide) z⟩
          rw [nI_1]; exact hk (fun x hx => hl x (by omega))
        | succ j ih =>
          intro a b c hj ha hb hab hbc hl hk
          refine B_X6_speak_85 ⟨fun z => absurd z (nI_ge (a := c) (b := 8) (by omega) (by omega)), fun _ => ⟨vpn ht (by omega), fun z => absurd e37 z, fun _ => R_apart k3 ht ha hb (by omega) ⟨fun z => ?_, fun z => ?_⟩⟩⟩
          · rw [bi_0] at z
            rw [nI_1]
            refine ih a b (c + 1) (by omega) ha hb hab (by omega) (fun x hx hx2 => ?_) hk
            rcases Nat.lt_or_ge x (64 * a + 8 * b + c) with y | y
            · exact hl x y hx2
            · obtain rfl : x = 64 * a + 8 * b + c := by omega
              have := (tri_mk ha hb (by omega)).mp hx2
              exact z ⟨this.2.1, this.2.2⟩
          · rw [bi_n0] at z
            have hx1 : tri vo (64 * a + 8 * b + c) := (tri_mk ha hb (by omega)).mpr ⟨⟨hab, hbc⟩, z.1, z.2⟩
            have hf := found (64 * a + 8 * b + c) (by omega) hx1 hl
            rw [mask_mk ha hb (by omega)] at hf
            rw [cl (n := t) (by omega)]
            exact f85 _ _ _ _ (by rw [gm_sm_n (by omega), gm_sm_s, upd_s]; exact hd) hf
      have l61 : ∀ (j a b : Nat), b + j = 8 → a < 8 → a < b → (∀ x, x < 64 * a + 8 * b → ¬ tri vo x) → ((∀ x, x < 64 * (a + 1) → ¬ tri vo x) → K_X6_speak_37 E Q τ (nI p) (nI t) d (nI (a + 1))) → K_X6_speak_61 E Q τ (nI p) (nI t) d (nI a) (nI b) := by
        intro j
        induction j with
        | zero =>
          intro a b hj ha hab hl hk
          obtain rfl : b = 8 := by omega
          refine B_X6_speak_61 ⟨fun _ => ?_, fun z => absurd (by decide) z⟩
          rw [nI_1]; exact hk (fun x hx => hl x (by omega))
        | succ j ih =>
          intro a b hj ha hab hl hk
          refine B_X6_speak_61 ⟨fun z => absurd z (nI_ge (a := b) (b := 8) (by omega) (by omega)), fun _ => ⟨vpn ht (by omega), fun z => absurd e37 z, fun _ => ?_⟩⟩
          rw [nI_1]
          refine l85 (7 - b) a b (b + 1) (by omega) ha (by omega) hab (by omega) (fun x hx hx2 => ?_) (fun hl2 => ih a (b + 1) (by omega) ha (by omega) hl2 hk)
          rcases Nat.lt_or_ge x (64 * a + 8 * b) with y | y
          · exact hl x y hx2
          · obtain ⟨a', b', c', rfl, ha', hb', hc', y1, y2, -⟩ := tri_un hx2 (by omega)
            omega
      have l37 : ∀ (j a : Nat), a + j = 8 → (∀ x, x < 64 * a → ¬ tri vo x) → K_X6_speak_37 E Q τ (nI p) (nI t) d (nI a) := by
        intro j
        induction j with
        | zero =>
          intro a hj hl
          obtain rfl : a = 8 := by omega
          exact B_X6_speak_37 ⟨fun _ => nofind (fun x hx => hl x (by omega)), fun z => absurd (by decide) z⟩
        | succ j ih =>
          intro a hj hl
          refine B_X6_speak_37 ⟨fun z => absurd z (nI_ge (a := a) (b := 8) (by omega) (by omega)), fun _ => ⟨vpn ht (by omega), fun z => absurd e37 z, fun _ => ?_⟩⟩
          rw [nI_1]
          refine l61 (7 - a) a (a + 1) (by omega) (by omega) (by omega) (fun x hx hx2 => ?_) (fun hl2 => ih (a + 1) (by omega) hl2)
          rcases Nat.lt_or_ge x (64 * a) with y | y
          · exact hl x y hx2
          · obtain ⟨a', b', c', rfl, ha', hb', hc', y1, y2, -⟩ := tri_un hx2 (by omega)
            omega
      exact l37 8 0 (by omega) (fun x hx => by omega)
    · have hl : ¬ gm τ 54 t = -9 := by
        have k4 := (h1 t ht).2.2.2
        rw [updF_s] at k4
        rcases k4 with k4 | k4
        · exact absurd k4.1 h3
        · rw [k4.2.1]; exact k4.2.2.1
      refine f37 τ 0 hl (hq τ fx1 (h1.cg (fun x hx => ?_)))
      rw [speak, if_pos q, if_neg h3]
  · refine hq σ Fx.rf (h.cg (fun x hx => ?_))
    rw [speak, if_neg q, updF_self]
