/-! ===== the reference: whole texts ===== -/
theorem Sc.gi25 {σ τ : Sg} (h : Sc σ τ) : gi τ 4025 = gi σ 4025 := h.1 4025 (by simp)
theorem R_textLoop {E : EV} {Q : Sg → Int32 → Prop} {X : List Nat} (hX : okX X) : ∀ (f p n : Nat) (P : List Nat) (L : List Ev) (σ : Sg), p ≤ X.length → X.length < p + f → TxM σ X → TkM σ X p → gi σ 4016 = -9 → FoS σ P → EvS σ L → okR P L → (∀ s, rdT X f p P L n = .inl s → ∀ τ, Sc σ τ → Q τ (-10 - nI s)) → (∀ n' P' L', rdT X f p P L n = .inr (n', P', L') → ∀ τ, Sc σ τ → FoS τ P' → EvS τ L' → okR P' L' → K_X6_tell_90 E Q (sm τ 42 0 (gm τ 42 1)) (nI n') 0) → K_X6_tell_31 E Q σ (nI n)
  | 0, p, n, P, L, σ, hp, hf, _, _, _, _, _, _, _, _ => absurd hf (by omega)
  | f + 1, p, n, P, L, σ, hp, hf, h, hT, hfl, hF, hE, hR, hqF, hqO => by
    rw [rdT] at hqF hqO
    have k6 := kd_eq (m := 6) hT (by omega)
    refine B_X6_tell_31 ⟨fun z => absurd hfl z, fun _ => ⟨fun z => ?_, fun z => ?_⟩⟩
    · have z := k6.mp z
      rw [if_pos z] at hqO
      exact hqO n P L rfl σ Sc.rf hF hE hR
    · have z : ¬ kd X p = 6 := fun w => z (k6.mpr w)
      rw [if_neg z] at hqF hqO
      refine R_item hX h hp hT hfl hF hE hR (fun s e e9 τ f1 a => ?_) (fun p' P' L' e τ f1 a q hq1 hq2 hT2 b c => ?_)
      · refine B_X6_tell_31 ⟨fun _ => ?_, fun w => absurd (a.symm.trans w) e9⟩
        rw [a]; exact hqF s (by rw [e]; rfl) τ f1
      · obtain ⟨o1, o2, o3⟩ := item_ok hp hR e
        rw [nI_1]
        rw [e] at hqF hqO
        exact R_textLoop hX f p' (n + 1) P' L' τ o2 (by omega) (h.sc f1) hT2 a b c o3 (fun s e3 φ f3 => hqF s e3 φ (f1.tr f3)) (fun n2 P2 L2 e3 φ f3 a3 b3 => hqO n2 P2 L2 e3 φ (f1.tr f3) a3 b3)
theorem R_tellText {E : EV} {Q : Sg → Int32 → Prop} {σ : Sg} {A : Ab} (h : RepM σ A) (g : Good A) (hq : ∀ τ, Fr 40 57 σ τ → RepM τ (S_tell A).2 → Q τ (S_tell A).1) : MetI E mi_X6_tell [.ref 40] σ Q := by
  have hX := g.2.2.1
  have hL := hX.1
  have sc0 : Sc σ (sm (sm (si (si σ 4012 0) 4016 (-9)) 42 1 0) 44 1 0) := (((Sc.rf.si (by simp)).si (by simp)).s42).s44 (Or.inl rfl)
  refine M_X6_tell (R_next hX (h.2.2.1.sc sc0) (p := 0) (Nat.zero_le _) rfl (fun τ0 f0 hT => ?_))
  have sc1 := sc0.tr f0.sc
  have hF0 : FoS (sm (sm (si (si σ 4012 0) 4016 (-9)) 42 1 0) 44 1 0) [] := ⟨rfl, fun k hk => absurd hk (Nat.not_lt_zero k)⟩
  have hE0 : EvS (sm (sm (si (si σ 4012 0) 4016 (-9)) 42 1 0) 44 1 0) [] := ⟨rfl, fun k hk => absurd hk (Nat.not_lt_zero k)⟩
  refine R_textLoop (n := 0) (p := 0) (P := []) (L := []) hX (A.2.2.1.length + 1) (σ := τ0) (Nat.zero_le _) (by omega) (h.2.2.1.sc sc1) hT ((f0.1 4016 (by simp)).trans rfl) (hF0.fx f0) (hE0.fx f0) okR_nil (fun s e τ f => ?_) (fun n P L e τ f a b o => ?_)
  · have hh := hq τ ((sc1.tr f).fr)
    rw [S_tell, e] at hh
    exact hh (h.sc g (sc1.tr f))
  · have sc2 := sc1.tr f
    have hR := h.sc g sc2
    have hP := o.1.1
    have hLL : L.length ≤ 40 := o.2.1
    have fin : ∀ (τ2 : Sg), Fr 40 57 σ τ2 → gi τ2 4025 = gi τ 4025 → gl τ2 4000 = gl τ 4000 → gm τ2 42 0 = nI P.length → (∀ k, k < P.length → gm τ2 43 k = nI (gd P k)) → EvM τ2 0 (L, lastD L) → Q (si (sm (sm τ2 50 0 (vp_nar .boolean (0 : Int32))) 50 1 (vp_nar .boolean (0 : Int32))) 4002 (0 : Int32)) (nI n) := by
      intro τ2 f2 e25 e40 e42 e43 hE
      have hh := hq _ (((f2.sm (a := 50) (i := 0) (v := vp_nar .boolean (0 : Int32)) (by omega) (by omega)).sm (a := 50) (i := 1) (v := vp_nar .boolean (0 : Int32)) (by omega) (by omega)).si (k := 4002) (v := 0) (by omega) (by omega))
      rw [S_tell, e] at hh
      have b0 : vp_nar .boolean (0 : Int32) = 0 := by decide
      refine hh ⟨⟨e42, e43⟩, hE, ⟨rfl, fun k hk => absurd hk (Nat.not_lt_zero k)⟩, ?_, ?_, e40.trans hR.2.2.2.2.2.1, ?_⟩
      · show upd (upd (gm τ2 50) 0 (vp_nar .boolean (0 : Int32))) 1 (vp_nar .boolean (0 : Int32)) 0 = 0
        rw [upd_n (by omega), upd_s, b0]
      · show upd (upd (gm τ2 50) 0 (vp_nar .boolean (0 : Int32))) 1 (vp_nar .boolean (0 : Int32)) 1 = 0
        rw [upd_s, b0]
      · obtain ⟨t, ht, et⟩ := hR.2.2.2.2.2.2
        exact ⟨t, ht, e25.trans et⟩
    have l90 : ∀ (j k : Nat) (τ2 : Sg), k + j = 8 → Fr 40 57 σ τ2 → gi τ2 4025 = gi τ 4025 → gl τ2 4000 = gl τ 4000 → gm τ2 42 0 = nI P.length → (∀ i, i < P.length → gm τ2 43 (8 + i) = nI (gd P i)) → (∀ i, i < P.length → i < k → gm τ2 43 i = nI (gd P i)) → EvS τ2 L → K_X6_tell_90 E Q τ2 (nI n) (nI k) := by
      intro j
      induction j with
      | zero =>
        intro k τ2 hk f2 e25 e40 e42 e8 e43 hE
        obtain rfl : k = 8 := by omega
        have cp : ∀ v, v = nI (lastD L) → MetV E mi_X6_copy [.ref 40, .int (1 : Int32), .int (0 : Int32)] (sm τ2 45 1 v) (fun τ3 => Q (si (sm (sm τ3 50 0 (vp_nar .boolean (0 : Int32))) 50 1 (vp_nar .boolean (0 : Int32))) 4002 (0 : Int32)) (nI n)) := by
          intro v hv
          have hE1 : EvM (sm τ2 45 1 v) 1 (L, lastD L) := ⟨hE.1, by rw [gm_sm_s, upd_s]; exact hv, hE.2⟩
          refine R_copy (s := 1) (d := 0) hE1 (by omega) (by omega) (by omega) hLL (fun τ3 f3 hE3 => fin τ3 ((f2.sm (by omega) (by omega)).tr f3.fr) ((f3.1 4025).trans e25) ((f3.2.1 4000).trans e40) ?_ (fun i hi => ?_) hE3)
          · rw [f3.2.2.1 42 (by omega)]; exact e42
          · rw [f3.2.2.1 43 (by omega)]; exact e43 i hi (by omega)
        refine B_X6_tell_90 ⟨fun _ => ?_, fun z => absurd (by decide) z⟩
        have c44 : gm τ2 44 1 = 0 ↔ L.length = 0 := by rw [hE.1]; exact ⟨fun z => inj_nI (by omega) (by omega) z, fun z => by rw [z]; rfl⟩
        rw [c44, hE.1]
        refine ⟨fun z => ?_, fun z => cp _ (by rw [lastD, if_pos z]; rfl)⟩
        rw [show ((40 : Int32) + nI L.length) - 1 = nI (40 + (L.length - 1)) from by rw [show (40 : Int32) = nI 40 from rfl, nI_add, show 40 + L.length = (40 + (L.length - 1)) + 1 by omega, nI_pred], cl (by omega)]
        exact ⟨vpn (by omega) (by omega), cp _ (by rw [lastD, if_neg z]; exact (hE.2 (L.length - 1) (by omega)).2.1)⟩
      | succ j ih =>
        intro k τ2 hk f2 e25 e40 e42 e8 e43 hE
        refine B_X6_tell_90 ⟨fun z => absurd z (nI_ge (a := k) (b := 8) (by omega) (by omega)), fun _ => ?_⟩
        rw [show (8 : Int32) = nI 8 from rfl, nI_add, nI_1, cl (by omega), cl (by omega)]
        refine ⟨vpn (by omega) (by omega), vpn (by omega) (by omega), ih (k + 1) _ (by omega) (f2.sm (by omega) (by omega)) e25 e40 e42 (fun i hi => ?_) (fun i hi hik => ?_) hE⟩
        · show upd (gm τ2 43) k _ (8 + i) = _
          rw [upd_n (by omega)]; exact e8 i hi
        · show upd (gm τ2 43) k _ i = _
          by_cases z : i = k
          · rw [z, upd_s]; rw [z] at hi; exact e8 k hi
          · rw [upd_n z]; exact e43 i hi (by omega)
    refine l90 8 0 _ (by omega) (sc2.fr.sm (by omega) (by omega)) rfl rfl ?_ a.2 (fun i _ hi => absurd hi (by omega)) b
    show upd (gm τ 42) 0 (gm τ 42 1) 0 = _
    rw [upd_s]; exact a.1
