/-! ===== the reference: what is done ahead of a day ===== -/
def strg (p : Nat) (S : SS) : SS := (S.1, upd S.2.1 p (S.2.1 p ||| 256), S.2.2)
/-- a hint (true) or a stranger for the one before c; 0: nobody -/
def actOne (d : Int32) (x : Bool × Nat) (S : SS) : SS := if x.2 = 0 then S else if x.1 = true then speak (x.2 - 1) d (think (x.2 - 1) S) else strg (x.2 - 1) S
def actN (d : Int32) (ac : Nat → Bool × Nat) : Nat → Nat → SS → SS
  | 0, _, S => S
  | j + 1, k, S => actN d ac j (k + 1) (actOne d (ac k) S)
def av (x : Bool × Nat) : Int32 := if x.1 = true then nI x.2 else -(nI x.2)
theorem av_pos : ∀ c, c < 8 → ¬ av (true, c + 1) ≤ 0 ∧ (0 : Int32) ≤ av (true, c + 1) ∧ av (true, c + 1) - 1 = nI c := by decide +kernel
theorem av_neg : ∀ c, c < 8 → av (false, c + 1) ≤ 0 ∧ ¬ (0 : Int32) ≤ av (false, c + 1) ∧ -(av (false, c + 1)) - 1 = nI c := by decide +kernel
theorem av_0 : ∀ b, (av (b, 0) ≤ 0 ∧ (0 : Int32) ≤ av (b, 0)) := by decide
def hadB (f : Nat → Int32) : Nat → Int32
  | 0 => 0
  | k + 1 => if f k = 0 then hadB f k else hadB f k ||| one k
def CfgM (σ : Sg) (th : Nat) (d : Int32) (m : Nat) (ac : Nat → Bool × Nat) (y w : Int32) : Prop := ((¬ 99 < d → gi σ 4025 = nI th) ∧ gi σ 4026 = d) ∧ (gi σ 4024 = nI m ∧ ∀ i, i < m → gm σ 56 i = av (ac i)) ∧ gi σ 4027 = y ∧ gi σ 4028 = w
theorem CfgM.fx {σ τ : Sg} {th m lo hi : Nat} {d y w : Int32} {ac : Nat → Bool × Nat} {K : List Nat} (h : CfgM σ th d m ac y w) (f : Fx K lo hi σ τ) (hi' : hi < 56) (hK : ∀ k, 4024 ≤ k → k < 4029 → k ∉ K) : CfgM τ th d m ac y w :=
  ⟨⟨fun z => (f.1 4025 (hK _ (by omega) (by omega))).trans (h.1.1 z), (f.1 4026 (hK _ (by omega) (by omega))).trans h.1.2⟩, ⟨(f.1 4024 (hK _ (by omega) (by omega))).trans h.2.1.1, fun i hi => by rw [f.2.2 56 (by omega)]; exact h.2.1.2 i hi⟩, (f.1 4027 (hK _ (by omega) (by omega))).trans h.2.2.1, (f.1 4028 (hK _ (by omega) (by omega))).trans h.2.2.2⟩
/-- who keeps to a place goes there -/
def stayS (y w : Int32) (S : SS) : SS := if y = -9 then S else (upd S.1 y.toNatClampNeg w, S.2)
def okK (n : Nat) (y : Int32) : Prop := y = -9 ∨ ∃ p, p < n ∧ y = nI p
theorem upd_id {f : Nat → Int32} {k : Nat} : upd f k (f k) = f := by
  funext x
  by_cases e : x = k
  · subst e; exact upd_s
  · exact upd_n e
theorem updF_updF {F : Nat → SS} {t : Nat} {S R : SS} : updF (updF F t S) t R = updF F t R := by
  funext x
  by_cases e : x = t
  · subst e; rw [updF_s, updF_s]
  · rw [updF_n e, updF_n e, updF_n e]
theorem R_actLoop {E : EV} {Q : Sg → Prop} {n th m : Nat} {d y w : Int32} {ac : Nat → Bool × Nat} (hn : n ≤ 8) (ht : th < 4) (hm : m ≤ 8) (hd : ¬ d = -9) (h99 : ¬ 99 < d) (hac : ∀ i, i < m → (ac i).2 ≤ 8) (hy : okK n y) : ∀ (j k : Nat) (σ : Sg) (F : Nat → SS), k + j = m → CfgM σ th d m ac y w → AllM σ n F → (∀ τ, Fx [] 51 55 σ τ → AllM τ n (fun x => stayS y w (updF F th (actN d ac j k (F th)) x)) → Q τ) → K_X6_act_53 E Q σ (nI k)
  | 0, k, σ, F, hj, hC, h, hq => by
    obtain rfl : k = m := by omega
    refine B_X6_act_53 ⟨fun _ => ?_, fun z => absurd (by rw [hC.2.1.1]; exact nI_le (Nat.le_refl k) (by omega)) z⟩
    rw [hC.2.2.1, hC.2.2.2]
    have hq' : ∀ τ, Fx [] 51 55 σ τ → AllM τ n (fun x => stayS y w (F x)) → Q τ := fun τ f hA => hq τ f (hA.cg (fun x _ => by
      show stayS y w (F x) = stayS y w (updF F th (F th) x)
      rw [updF_self]))
    refine ⟨fun z => hq' σ Fx.rf (h.cg (fun x _ => by rw [stayS, if_pos z])), fun z => ?_⟩
    obtain ⟨p, hp, rfl⟩ := hy.resolve_left z
    refine ⟨vpn (by omega) (by omega), ?_⟩
    rw [cl (by omega)]
    refine hq' _ (Fx.sm Fx.rf (by omega) (by omega)) (fun t ht => ?_)
    obtain ⟨k1, k2, k3, k4⟩ := h t ht
    show StM _ n t (stayS (nI p) w (F t))
    rw [stayS, if_neg z, cl (by omega)]
    exact ⟨fun p hp => by rw [gm_sm_s]; exact upd_al k1 p hp, k2, k3, k4⟩
  | j + 1, k, σ, F, hj, hC, h, hq => by
    have e56 := hC.2.1.2 k (by omega)
    have hc8 := hac k (by omega)
    have next : ∀ τ, Fx [] 51 55 σ τ → AllM τ n (updF F th (actOne d (ac k) (F th))) → K_X6_act_53 E Q τ (nI k + 1) := by
      intro τ f hA
      rw [nI_1]
      refine R_actLoop hn ht hm hd h99 hac hy j (k + 1) τ _ (by omega) (hC.fx f (by omega) (fun _ _ _ => List.not_mem_nil)) hA (fun υ f2 h2 => hq υ (f.tr f2) (h2.cg (fun x _ => ?_)))
      show stayS y w _ = stayS y w _
      rw [updF_updF, updF_s]; rfl
    refine B_X6_act_53 ⟨fun z => absurd z (by rw [hC.2.1.1]; exact nI_ge (by omega) (by omega)), fun _ => ⟨vpn (by omega) (by omega), ?_⟩⟩
    rw [cl (n := k) (by omega), e56, hC.1.1 h99]
    rcases hx : ac k with ⟨b, c⟩
    rw [hx] at hc8 next
    cases c with
    | zero =>
      obtain ⟨a1, a2⟩ := av_0 b
      refine ⟨fun _ => ⟨fun _ => next σ Fx.rf (h.cg (fun x _ => ?_)), fun z => absurd a1 z⟩, fun z => absurd a2 z⟩
      show F x = updF F th (actOne d (b, 0) (F th)) x
      rw [actOne, if_pos rfl, updF_self]
    | succ c =>
      have hc8 : c + 1 ≤ 8 := hc8
      cases b with
      | true =>
        obtain ⟨a1, a2, a3⟩ := av_pos c (by omega)
        refine ⟨fun _ => ⟨fun z => absurd z a1, fun _ => ?_⟩, fun z => absurd a2 z⟩
        rw [a3]
        refine R_think h (by omega) ht (fun τ f1 h1 => ?_)
        have hC1 := hC.fx f1 (by omega) (fun _ _ _ => List.not_mem_nil)
        rw [hC1.1.1 h99, hC1.1.2]
        refine R_speak h1 (by omega) ht hd (fun τ2 f2 h2 => ?_)
        refine next τ2 ((f1.mono (fun k hk => absurd hk List.not_mem_nil) (by omega) (by omega)).tr (f2.mono (fun k hk => absurd hk List.not_mem_nil) (by omega) (by omega))) (h2.cg (fun x _ => ?_))
        rw [updF_updF, updF_s]
        show _ = updF F th (actOne d (true, c + 1) (F th)) x
        rw [actOne, if_neg (by simp), if_pos rfl]; rfl
      | false =>
        obtain ⟨a1, a2, a3⟩ := av_neg c (by omega)
        refine ⟨fun z => absurd z a2, fun _ => ⟨fun _ => ?_, fun z => absurd a1 z⟩⟩
        rw [a3, mul4, cl (by omega), (h th ht).2.1 c (by omega)]
        refine ⟨vpn (by omega) (by omega), next _ (Fx.sm Fx.rf (by omega) (by omega)) ((h.fr ht).cg (fun x _ => ?_))⟩
        show _ = updF F th (actOne d (false, c + 1) (F th)) x
        rw [actOne, if_neg (by simp), if_neg Bool.false_ne_true]; rfl
theorem R_act {E : EV} {Q : Sg → Prop} {σ : Sg} {n th m : Nat} {d y w : Int32} {ac : Nat → Bool × Nat} {F : Nat → SS} (hn : n ≤ 8) (ht : th < 4) (hm : m ≤ 8) (hd : ¬ d = -9) (h99 : ¬ 99 < d) (hac : ∀ i, i < m → (ac i).2 ≤ 8) (hy : okK n y) (hC : CfgM σ th d m ac y w) (h : AllM σ n F) (hq : ∀ τ, Fx [4029] 51 55 σ τ → gi τ 4029 = hadB (F th).2.1 8 → AllM τ n (fun x => stayS y w (updF F th (actN d ac m 0 (F th)) x)) → Q τ) : MetV E mi_X6_act [.ref 40] σ Q := by
  have hK : ∀ k, 4024 ≤ k → k < 4029 → k ∉ [4029] := fun k h1 h2 => by simp; omega
  have go : ∀ (j k : Nat) (τ : Sg), k + j = 8 → Fx [4029] 51 55 σ τ → AllM τ n F → gi τ 4029 = hadB (F th).2.1 k → K_X6_act_7 E Q τ (nI k) := by
    intro j
    induction j with
    | zero =>
      intro k τ hk f hA he
      obtain rfl : k = 8 := by omega
      refine B_X6_act_7 ⟨fun _ => ?_, fun z => absurd (by decide) z⟩
      exact R_actLoop hn ht hm hd h99 hac hy m 0 τ F (by omega) (hC.fx f (by omega) hK) hA (fun υ f2 h2 => hq υ (f.tr (f2.mono (fun k hk => absurd hk List.not_mem_nil) (by omega) (by omega))) (by rw [f2.1 4029 List.not_mem_nil]; exact he) h2)
    | succ j ih =>
      intro k τ hk f hA he
      have hC1 := hC.fx f (by omega) hK
      have e := (hA th ht).2.1 k (by omega)
      refine B_X6_act_7 ⟨fun z => absurd z (nI_ge (a := k) (b := 8) (by omega) (by omega)), fun _ => ?_⟩
      rw [hC1.1.1 h99, mul4, cl (by omega), e, he, nI_1]
      refine ⟨vpn (by omega) (by omega), fun z => ?_, fun z => ?_⟩
      · refine ih (k + 1) _ (by omega) (f.si (by simp)) hA ?_
        rw [gi_si_s, hadB, if_pos z, Int32.or_zero]
      · refine ih (k + 1) _ (by omega) (f.si (by simp)) hA ?_
        rw [gi_si_s, hadB, if_neg z]; rfl
  exact M_X6_act (go 8 0 _ (by omega) (Fx.si Fx.rf (by simp)) h (by rw [gi_si_s]; rfl))
