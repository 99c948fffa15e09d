/-! ===== the reference: one ITEM ===== -/
theorem kd_le {X : List Nat} {p : Nat} : kd X p ≤ 9 := by
  rw [kd, tok, tokAt]
  split
  · exact (by decide : 6 ≤ 9)
  · split
    · have := @mean_le (cdW X (skF (isB X) (X.length - p) p) (skF (isL X) (X.length - skF (isB X) (X.length - p) p) (skF (isB X) (X.length - p) p)))
      show mean _ ≤ 9; omega
    · split
      · show (if _ then 7 else 9) ≤ 9
        split <;> omega
      · split
        · exact (by decide : 8 ≤ 9)
        · exact (by decide : 9 ≤ 9)
theorem kd_eq {σ : Sg} {X : List Nat} {p m : Nat} (h : TkM σ X p) (hm : m < 2 ^ 31) : gi σ 4014 = nI m ↔ kd X p = m := by
  have := @kd_le X p
  rw [h.2.2.1]
  exact ⟨fun z => inj_nI (by omega) hm z, fun z => by rw [z]⟩
theorem R_275 {E : EV} {Q : Sg → Prop} {σ : Sg} {X : List Nat} {p : Nat} {v1 v2 : Int32} (hX : okX X) (h : TxM σ X) (hp : p ≤ X.length) (hT : TkM σ X p) (hf : gi σ 4016 = -9) (hqO : kd X p = 8 → ∀ τ, Fx [4012, 4013, 4014, 4015] 58 57 σ τ → gi τ 4016 = -9 → TkM τ X (en X p) → Q τ) (hqF : ¬ kd X p = 8 → Q (si σ 4016 (nI (st X p)))) : K_X6_readItem_275 E Q σ v1 v2 := by
  have k := kd_eq (m := 8) hT (by omega)
  refine B_X6_readItem_275 ⟨fun z => R_due0 hf ?_, fun z => R_due1 hX h hp hT hf (hqO (k.mp z))⟩
  rw [hT.2.1]; exact hqF (fun w => z (k.mpr w))
theorem EvS.row {σ : Sg} {L : List Ev} {b : Nat} {v : Int32} (h : EvS σ L) (hb : 46 ≤ b ∧ b ≤ 49) : EvS (sm σ b (40 + L.length) v) L := by
  refine ⟨by rw [gm_sm_n (by omega)]; exact h.1, fun k hk => ?_⟩
  have e : ∀ a, gm (sm σ b (40 + L.length) v) a (40 + k) = gm σ a (40 + k) := by
    intro a
    by_cases z : a = b
    · subst z; rw [gm_sm_s, upd_n (by omega)]
    · rw [gm_sm_n z]
  rw [e, e, e, e]; exact h.2 k hk
theorem EvS.push {σ : Sg} {L : List Ev} {k d a b : Nat} (h : EvS σ L) (h1 : gm σ 46 (40 + L.length) = nI k) (h2 : gm σ 47 (40 + L.length) = nI d) (h3 : gm σ 48 (40 + L.length) = nI a) (h4 : gm σ 49 (40 + L.length) = nI b) : EvS (sm σ 44 1 (nI (L.length + 1))) (L ++ [(k, d, a, b)]) := by
  refine ⟨?_, fun j hj => ?_⟩
  · rw [gm_sm_s, upd_s, List.length_append]; rfl
  · have hj : j < L.length + 1 := by have := hj; rw [List.length_append] at this; exact this
    rw [gm_sm_n (by omega), gm_sm_n (by omega), gm_sm_n (by omega), gm_sm_n (by omega)]
    rcases (show j < L.length ∨ j = L.length by omega) with z | z
    · rw [ge_app z]; exact h.2 j z
    · rw [z, ge_last]; exact ⟨h1, h2, h3, h4⟩
theorem gss {σ : Sg} {k a i : Nat} {v w : Int32} : gi (sm (si σ k v) a i w) k = v := gi_si_s
theorem gss2 {σ : Sg} {k a i b j : Nat} {v w x : Int32} : gi (sm (sm (si σ k v) a i w) b j x) k = v := gi_si_s
theorem R_item {E : EV} {Q : Sg → Prop} {σ : Sg} {X : List Nat} {p : Nat} {P : List Nat} {L : List Ev} (hX : okX X) (h : TxM σ X) (hp : p ≤ X.length) (hT : TkM σ X p) (hf : gi σ 4016 = -9) (hF : FoS σ P) (hE : EvS σ L) (hR : okR P L) (hqF : ∀ s, item X p P L = .inl s → ¬ nI s = -9 → ∀ τ, Sc σ τ → gi τ 4016 = nI s → Q τ) (hqO : ∀ p' P' L', item X p P L = .inr (p', P', L') → ∀ τ, Sc σ τ → gi τ 4016 = -9 → ∀ q, en X q = p' → q ≤ X.length → TkM τ X p' → FoS τ P' → EvS τ L' → Q τ) : MetV E mi_X6_readItem [.ref 40] σ Q := by
  have hP := hR.1.1
  have hL : L.length ≤ 40 := hR.2.1
  have hM : mc L ≤ 6 := hR.2.2.1
  have hD : lastD L ≤ 99 := hR.2.2.2.1
  have hp1 := en_le hp
  have hp2 := en_le hp1
  have hp3 := en_le hp2
  have hp4 := en_le hp3
  have hk9 := @kd_le X p
  have ek : gi σ 4014 = nI (kd X p) := hT.2.2.1
  -- a fault at the word
  have z65 : item X p P L = .inl (st X p) → K_X6_readItem_65 E Q σ (nI (kd X p)) 0 := by
    intro e
    refine B_X6_readItem_65 (R_due0 hf ?_)
    rw [hT.2.1, gi_si_s]
    exact ⟨fun z => absurd z (st_9 hX hp), fun _ => hqF (st X p) e (st_9 hX hp) _ (Sc.rf.si (by simp)) gi_si_s⟩
  -- a person
  have p65 : kd X p = 5 → P.length < 8 → K_X6_readItem_65 E Q σ (nI (kd X p)) 1 := by
    intro k5 h8
    have ei : item X p P L = itemP X p P L := by rw [item, if_pos k5]
    rw [ei] at hqF hqO
    refine B_X6_readItem_65 (R_due1 hX h hp hT hf (fun τ1 f1 hf1 hT1 => ⟨fun _ => ⟨fun z => absurd (show nI (kd X p) = 5 by rw [k5]; rfl) z, fun _ => ?_⟩, fun z => absurd hf1 z⟩))
    have hF1 := hF.fx f1
    have hE1 := hE.fx f1
    have h1 := h.sc f1.sc
    have a42 : (8 : Int32) + gm τ1 42 1 = nI (8 + P.length) := by rw [hF1.1, show (8 : Int32) = nI 8 from rfl, nI_add]
    rw [a42, cl (by omega)]
    refine R_num (lo := 0) (w := 3) hX h1 hp1 hT1 hf1 (by omega) (fun ok τ2 f2 hf2 hT2 => ⟨vpn (by omega) (by omega), ?_⟩) (fun bad v => ⟨vpn (by omega) (by omega), ?_⟩)
    · have ok : numOk X (en X p) 0 3 := ok
      have hF2 := hF1.fx f2
      rw [hF2.1, nI_1]
      have hF3 : FoS (sm (sm τ2 43 (8 + P.length) (nI (vl X (en X p)))) 42 1 (nI (P.length + 1))) (P ++ [vl X (en X p)]) := by
        refine ⟨?_, fun k hk => ?_⟩
        · rw [gm_sm_s, upd_s, List.length_append]; rfl
        · have hk : k < P.length + 1 := by have := hk; rw [List.length_append] at this; exact this
          rw [gm_sm_n (by omega), gm_sm_s]
          rcases (show k < P.length ∨ k = P.length by omega) with z | z
          · rw [upd_n (by omega), gd_app z]; exact hF2.2 k z
          · rw [z, upd_s, gd_last]
      have sc : Sc σ (sm (sm τ2 43 (8 + P.length) (nI (vl X (en X p)))) 42 1 (nI (P.length + 1))) := (f1.sc.tr f2.sc).s43.s42
      refine R_275 hX (h.sc sc) hp2 hT2 hf2 (fun k8 τ3 f3 hf3 hT3 => ?_) (fun k8 => ?_)
      · refine hqO (en X (en X (en X p))) (P ++ [vl X (en X p)]) L (by rw [itemP, if_neg (by omega), if_neg (fun w => w ok), if_neg (fun w => w k8)]) τ3 (sc.tr f3.sc) hf3 (en X (en X p)) rfl hp2 hT3 (hF3.fx f3) ?_
        have hE2a : EvS τ2 L := hE1.fx f2
        have hE2 : EvS (sm (sm τ2 43 (8 + P.length) (nI (vl X (en X p)))) 42 1 (nI (P.length + 1))) L := hE2a
        exact hE2.fx f3
      · exact hqF (st X (en X (en X p))) (by rw [itemP, if_neg (by omega), if_neg (fun w => w ok), if_pos k8]) (st_9 hX hp2) _ (sc.si (by simp)) gi_si_s
    · have bad : ¬ numOk X (en X p) 0 3 := bad
      refine F275 (by rw [gss2]; exact st_9 hX hp1) (hqF (st X (en X p)) (by rw [itemP, if_neg (by omega), if_pos bad]) (st_9 hX hp1) _ (((f1.sc.si (k := 4016) (v := nI (st X (en X p))) (by simp)).s43).s42) gss2)
  -- an event
  have e65 : kd X p ≤ 4 → (L.length < 40 ∧ (kd X p = 1 → mc L < 6)) → K_X6_readItem_65 E Q σ (nI (kd X p)) 1 := by
    intro k4 room
    have ei : item X p P L = itemE X p P L := by rw [item, if_neg (by omega), if_pos k4]
    rw [ei] at hqF hqO
    have n5 : ¬ nI (kd X p) = 5 := fun w => by have := inj_nI (a := kd X p) (b := 5) (by omega) (by omega) w; omega
    refine B_X6_readItem_65 (R_due1 hX h hp hT hf (fun τ1 f1 hf1 hT1 => ⟨fun _ => ⟨fun _ => ?_, fun z => absurd z n5⟩, fun z => absurd hf1 z⟩))
    have hF1 := hF.fx f1
    have hE1 := hE.fx f1
    have h1 := h.sc f1.sc
    have a44 : (40 : Int32) + gm τ1 44 1 = nI (40 + L.length) := by rw [hE1.1, show (40 : Int32) = nI 40 from rfl, nI_add]
    have c44 : gm τ1 44 1 = 0 ↔ L.length = 0 := by rw [hE1.1]; exact ⟨fun z => inj_nI (by omega) (by omega) z, fun z => by rw [z]; rfl⟩
    have main : K_X6_readItem_164 E Q (sm τ1 46 (40 + L.length) (nI (kd X p))) (nI (kd X p)) 1 (nI (40 + L.length)) (nI (lastD L)) (nI (40 + L.length)) := by
      have sc1 : Sc σ (sm τ1 46 (40 + L.length) (nI (kd X p))) := f1.sc.row (by omega) room.1
      refine B_X6_readItem_164 (R_num (lo := lastD L) (w := 99) hX (h.sc sc1) hp1 hT1 hf1 hD (fun ok1 τ2 f2 hf2 hT2 => ⟨vpn (by omega) (by omega), ?_⟩) (fun bad v => ⟨vpn (by omega) (by omega), ?_⟩))
      · have ok1 : numOk X (en X p) (lastD L) 99 := ok1
        rw [cl (by omega)]
        have a42 : gm τ2 42 1 - 1 = nI P.length - 1 := by rw [show gm τ2 42 1 = nI P.length from (FoS.fx (σ := sm τ1 46 (40 + L.length) (nI (kd X p))) hF1 f2).1]
        have i4 : (nI P.length - 1).toInt = (P.length : Int) - 1 := by rw [show (1 : Int32) = nI 1 from rfl, pk_sub_toInt (by omega) (by omega)]; rfl
        rw [a42]
        have sc2 : Sc σ (sm τ2 47 (40 + L.length) (nI (vl X (en X p)))) := (sc1.tr f2.sc).row (by omega) room.1
        have hE2 : EvS (sm τ2 47 (40 + L.length) (nI (vl X (en X p)))) L := ((hE1.row (by omega)).fx f2).row (by omega)
        have r46 : gm (sm τ2 47 (40 + L.length) (nI (vl X (en X p)))) 46 (40 + L.length) = nI (kd X p) := by rw [gm_sm_n (by omega), f2.2.2 46 (by omega), gm_sm_s, upd_s]
        have r47 : gm (sm τ2 47 (40 + L.length) (nI (vl X (en X p)))) 47 (40 + L.length) = nI (vl X (en X p)) := by rw [gm_sm_s, upd_s]
        have hF2a : FoS τ2 P := FoS.fx (σ := sm τ1 46 (40 + L.length) (nI (kd X p))) hF1 f2
        have hF2 : FoS (sm τ2 47 (40 + L.length) (nI (vl X (en X p)))) P := hF2a
        refine R_num (lo := 0) (w := nI P.length - 1) hX (h.sc sc2) hp2 hT2 hf2 (by omega) (fun ok2 τ3 f3 hf3 hT3 => ⟨vpn (by omega) (by omega), ?_⟩) (fun bad v => ⟨vpn (by omega) (by omega), ?_⟩)
        · rw [i4] at ok2
          have ok2 : numOk X (en X (en X p)) 0 ((P.length : Int) - 1) := ok2
          have v2lt : vl X (en X (en X p)) < P.length := by have := ok2.2.2; show (tok X (en X (en X p))).2.2.2 < P.length; omega
          have sc3 : Sc σ (sm τ3 48 (40 + L.length) (nI (vl X (en X (en X p))))) := (sc2.tr f3.sc).row (by omega) room.1
          have hE3 : EvS (sm τ3 48 (40 + L.length) (nI (vl X (en X (en X p))))) L := (hE2.fx f3).row (by omega)
          have s46 : gm (sm τ3 48 (40 + L.length) (nI (vl X (en X (en X p))))) 46 (40 + L.length) = nI (kd X p) := by rw [gm_sm_n (by omega), f3.2.2 46 (by omega)]; exact r46
          have s47 : gm (sm τ3 48 (40 + L.length) (nI (vl X (en X (en X p))))) 47 (40 + L.length) = nI (vl X (en X p)) := by rw [gm_sm_n (by omega), f3.2.2 47 (by omega)]; exact r47
          have s48 : gm (sm τ3 48 (40 + L.length) (nI (vl X (en X (en X p))))) 48 (40 + L.length) = nI (vl X (en X (en X p))) := by rw [gm_sm_s, upd_s]
          have hF3a : FoS τ3 P := hF2.fx f3
          have hF3 : FoS (sm τ3 48 (40 + L.length) (nI (vl X (en X (en X p))))) P := hF3a
          have hT3' : TkM (sm τ3 48 (40 + L.length) (nI (vl X (en X (en X p))))) X (en X (en X (en X p))) := hT3
          have hf3' : gi (sm τ3 48 (40 + L.length) (nI (vl X (en X (en X p))))) 4016 = -9 := hf3
          have e42 : gm τ3 42 1 = nI P.length := hF3a.1
          have e14 : gi τ3 4014 = gi (sm τ3 48 (40 + L.length) (nI (vl X (en X (en X p))))) 4014 := rfl
          have e15 : gi τ3 4015 = gi (sm τ3 48 (40 + L.length) (nI (vl X (en X (en X p))))) 4015 := rfl
          rw [e42, e14, e15]
          revert sc3 hE3 s46 s47 s48 hF3 hT3' hf3'
          generalize sm τ3 48 (40 + L.length) (nI (vl X (en X (en X p)))) = σ3
          intro sc3 hE3 s46 s47 s48 hF3 hT3' hf3'
          -- behind the third number
          have last : bOk (kd X p) (vl X (en X (en X p))) (vl X (en X (en X (en X p)))) P.length → numOk X (en X (en X (en X p))) 0 99 → ∀ τ4, Fx [4012, 4013, 4014, 4015] 58 57 σ3 τ4 → gi τ4 4016 = -9 → TkM τ4 X (en X (en X (en X (en X p)))) → K_X6_readItem_265 E Q (sm τ4 49 (40 + L.length) (nI (vl X (en X (en X (en X p)))))) (nI (kd X p)) 1 (nI (40 + L.length)) := by
            intro bok ok3 τ4 f4 hf4 hT4
            refine B_X6_readItem_265 ?_
            have hE4 : EvS (sm τ4 49 (40 + L.length) (nI (vl X (en X (en X (en X p)))))) L := (hE3.fx f4).row (by omega)
            rw [hE4.1, nI_1]
            have sc4 : Sc σ (sm (sm τ4 49 (40 + L.length) (nI (vl X (en X (en X (en X p)))))) 44 1 (nI (L.length + 1))) := ((sc3.tr f4.sc).row (by omega) room.1).s44 (Or.inl rfl)
            have hE5 : EvS (sm (sm τ4 49 (40 + L.length) (nI (vl X (en X (en X (en X p)))))) 44 1 (nI (L.length + 1))) (L ++ [(kd X p, vl X (en X p), vl X (en X (en X p)), vl X (en X (en X (en X p))))]) := by
              refine hE4.push ?_ ?_ ?_ ?_
              · rw [gm_sm_n (by omega), f4.2.2 46 (by omega)]; exact s46
              · rw [gm_sm_n (by omega), f4.2.2 47 (by omega)]; exact s47
              · rw [gm_sm_n (by omega), f4.2.2 48 (by omega)]; exact s48
              · rw [gm_sm_s, upd_s]
            have hF5a : FoS τ4 P := hF3.fx f4
            have hF5 : FoS (sm (sm τ4 49 (40 + L.length) (nI (vl X (en X (en X (en X p)))))) 44 1 (nI (L.length + 1))) P := hF5a
            refine R_275 hX (h.sc sc4) hp4 hT4 hf4 (fun k8 τ5 f5 hf5 hT5 => ?_) (fun k8 => ?_)
            · exact hqO (en X (en X (en X (en X (en X p))))) P _ (by rw [itemE, if_neg (fun w => w room), if_neg (fun w => w ok1), if_neg (fun w => w ok2), if_neg (fun w => w ⟨ok3, bok⟩), if_neg (fun w => w k8)]) τ5 (sc4.tr f5.sc) hf5 (en X (en X (en X (en X p)))) rfl hp4 hT5 (hF5.fx f5) (hE5.fx f5)
            · exact hqF (st X (en X (en X (en X (en X p))))) (by rw [itemE, if_neg (fun w => w room), if_neg (fun w => w ok1), if_neg (fun w => w ok2), if_neg (fun w => w ⟨ok3, bok⟩), if_pos k8]) (st_9 hX hp4) _ (sc4.si (by simp)) gi_si_s
          have bad3 : ¬ (numOk X (en X (en X (en X p))) 0 99 ∧ bOk (kd X p) (vl X (en X (en X p))) (vl X (en X (en X (en X p)))) P.length) → ∀ υ, Sc (si σ3 4016 (nI (st X (en X (en X (en X p)))))) υ → gi υ 4016 = nI (st X (en X (en X (en X p)))) → Q υ := fun bad υ f e =>
            hqF (st X (en X (en X (en X p)))) (by rw [itemE, if_neg (fun w => w room), if_neg (fun w => w ok1), if_neg (fun w => w ok2), if_pos bad]) (st_9 hX hp3) υ ((sc3.si (k := 4016) (v := nI (st X (en X (en X (en X p))))) (by simp)).tr f) e
          refine ⟨fun k1 => ?_, fun k1 => ?_⟩
          · have k1 : 1 < kd X p := (nI_ltI (a := 1) (b := kd X p) (by omega) (by omega)).mp k1
            refine R_num (lo := 0) (w := 3) hX (h.sc sc3) hp3 hT3' hf3' (by omega) (fun ok3 τ4 f4 hf4 hT4 => ?_) (fun bad v => ?_)
            · have ok3 : numOk X (en X (en X (en X p))) 0 3 := ok3
              exact last ⟨fun w => by omega, fun _ => by have := ok3.2.2; show (tok X (en X (en X (en X p)))).2.2.2 < 4; omega⟩ ⟨ok3.1, ok3.2.1, by have := ok3.2.2; omega⟩ τ4 f4 hf4 hT4
            · have bad : ¬ numOk X (en X (en X (en X p))) 0 3 := bad
              refine F265 (by rw [gss]; exact st_9 hX hp3) (fun υ f e => bad3 (fun w => bad ⟨w.1.1, w.1.2.1, ?_⟩) υ ((Sc.rf.row (by omega) room.1).tr f) (e.trans gss))
              have := w.2.2 (by omega)
              have : (tok X (en X (en X (en X p)))).2.2.2 < 4 := this
              omega
          · have k1 : kd X p ≤ 1 := by
              rcases Nat.lt_or_ge 1 (kd X p) with w | w
              · exact absurd ((nI_ltI (a := 1) (b := kd X p) (by omega) (by omega)).mpr w) k1
              · exact w
            have k7 := kd_eq (m := 7) hT3' (by omega)
            have f246 : ¬ (numOk X (en X (en X (en X p))) 0 99 ∧ bOk (kd X p) (vl X (en X (en X p))) (vl X (en X (en X (en X p)))) P.length) → K_X6_readItem_246 E Q σ3 (nI (kd X p)) 1 (nI (40 + L.length)) 0 (nI (40 + L.length)) := by
              intro bad
              refine B_X6_readItem_246 (R_due0 hf3' ⟨vpn (by omega) (by omega), ?_⟩)
              rw [cl (by omega), hT3'.2.1]
              exact F265 (by rw [gss]; exact st_9 hX hp3) (fun υ f e => bad3 bad υ ((Sc.rf.row (by omega) room.1).tr f) (e.trans gss))
            refine ⟨fun z => f246 (fun w => z (k7.mpr w.1.1)), fun z => ?_⟩
            have z7 := k7.mp z
            obtain ⟨v3, w3⟩ := hT3'.2.2.2 z7
            rw [v3]
            refine R_in ⟨fun y => ?_, fun y => ?_⟩
            · rw [bi_0, iv_0, i4, nIt (by omega)] at y
              exact f246 (fun w => y ⟨by omega, by have := (w.2.1 k1).1; omega⟩)
            · rw [bi_n0, iv_0, i4, nIt (by omega)] at y
              rw [v3, s48]
              refine ⟨fun x => f246 (fun w => (w.2.1 k1).2 (inj_nI (by omega) (by omega) x)), fun x => ?_⟩
              refine B_X6_readItem_246 (R_due1 hX (h.sc sc3) hp3 hT3' hf3' (fun τ4 f4 hf4 hT4 => ⟨vpn (by omega) (by omega), ?_⟩))
              rw [cl (by omega), v3]
              exact last ⟨fun _ => ⟨by omega, fun w => x (by rw [w])⟩, fun w => by omega⟩ ⟨z7, Nat.zero_le _, by have : (tok X (en X (en X (en X p)))).2.2.2 ≤ 99 := w3; omega⟩ τ4 f4 hf4 hT4
        · rw [i4] at bad
          have bad : ¬ numOk X (en X (en X p)) 0 ((P.length : Int) - 1) := bad
          refine F3 room.1 ?_ (fun υ f e => hqF (st X (en X (en X p))) (by rw [itemE, if_neg (fun w => w room), if_neg (fun w => w ok1), if_pos bad]) (st_9 hX hp2) υ (((sc2.si (k := 4016) (v := nI (st X (en X (en X p)))) (by simp)).row (b := 48) (v := v) (by omega) room.1).tr f) (e.trans gss))
          · rw [gss]; exact st_9 hX hp2
      · have bad : ¬ numOk X (en X p) (lastD L) 99 := bad
        rw [cl (n := 40 + L.length) (by omega)]
        refine F2 room.1 ?_ (fun υ f e => hqF (st X (en X p)) (by rw [itemE, if_neg (fun w => w room), if_pos bad]) (st_9 hX hp1) υ (((sc1.si (k := 4016) (v := nI (st X (en X p))) (by simp)).row (b := 47) (v := v) (by omega) room.1).tr f) (e.trans gss))
        · rw [gss]; exact st_9 hX hp1
    rw [a44, cl (n := 40 + L.length) (by omega), c44]
    refine ⟨vpn (by omega) (by omega), fun z => ?_, fun z => ?_⟩
    · have e1 : nI (40 + L.length) - 1 = nI (40 + (L.length - 1)) := by rw [show 40 + L.length = (40 + (L.length - 1)) + 1 by omega, nI_pred]
      rw [e1, cl (by omega), (hE1.2 (L.length - 1) (by omega)).2.1]
      refine ⟨vpn (by omega) (by omega), ?_⟩
      have : lastD L = (ge L (L.length - 1)).2.1 := by rw [lastD, if_neg z]
      rw [← this]; exact main
    · have : lastD L = 0 := by rw [lastD, if_pos z]
      rw [this] at main; exact main
  -- which word it is
  have ed : ∃ d, EvM σ 1 (L, d) := ⟨(gm σ 45 1).toBitVec.toNat, hE.1, by
    apply Int32.toBitVec_inj.mp
    show _ = BitVec.ofNat 32 _
    rw [BitVec.ofNat_toNat, BitVec.setWidth_eq], hE.2⟩
  obtain ⟨d0, hEM⟩ := ed
  have ho : ∀ k, k < L.length → (ge L k).1 < 2 ^ 31 := fun k hk => by have := (hR.2.2.2.2.1 k hk).1; have : (ge L k).1 ≤ 4 := this; omega
  have c4 : ¬ (4 : Int32) < nI (kd X p) ↔ kd X p ≤ 4 := by
    rw [show (4 : Int32) = nI 4 from rfl, nI_ltI (by omega) (by omega)]; omega
  have c40 : (40 : Int32) ≤ gm σ 44 1 ↔ 40 ≤ L.length := by rw [hE.1, show (40 : Int32) = nI 40 from rfl, nI_leI (by omega) (by omega)]
  have c8 : (8 : Int32) ≤ gm σ 42 1 ↔ 8 ≤ P.length := by rw [hF.1, show (8 : Int32) = nI 8 from rfl, nI_leI (by omega) (by omega)]
  have c5 : nI (kd X p) = (5 : Int32) ↔ kd X p = 5 := ⟨fun z => inj_nI (by omega) (by omega) z, fun z => by rw [z]; rfl⟩
  have c1 : nI (kd X p) = (1 : Int32) ↔ kd X p = 1 := ⟨fun z => inj_nI (by omega) (by omega) z, fun z => by rw [z]; rfl⟩
  have noroom : kd X p ≤ 4 → ¬ (L.length < 40 ∧ (kd X p = 1 → mc L < 6)) → item X p P L = .inl (st X p) := fun k4 z => by rw [item, if_neg (by omega), if_pos k4, itemE, if_pos z]
  refine M_X6_readItem ?_
  rw [ek, c40, c8, c5, c1]
  refine ⟨fun z5 => ⟨fun z => z65 ?_, fun z => ⟨fun y => z65 (noroom (c4.mp z) (fun w => by omega)), fun y => ⟨fun x => e65 (c4.mp z) ⟨by omega, fun w => absurd w x⟩, fun x => R_maybes (r := 1) hEM (by omega) hL ho ⟨fun w => z65 (noroom (c4.mp z) (fun u => ?_)), fun w => e65 (c4.mp z) ⟨by omega, fun _ => ?_⟩⟩⟩⟩⟩, fun z5 => ⟨fun z => z65 ?_, fun z => p65 z5 (by omega)⟩⟩
  · have z : 4 < kd X p := (nI_ltI (a := 4) (b := kd X p) (by omega) (by omega)).mp z
    rw [item, if_neg z5, if_neg (by omega)]
  · have w : 6 ≤ mc L := (nI_leI (a := 6) (b := mc L) (by omega) (by omega)).mp w
    have := u.2 x; omega
  · rcases Nat.lt_or_ge (mc L) 6 with u | u
    · exact u
    · exact absurd ((nI_leI (a := 6) (b := mc L) (by omega) (by omega)).mpr u) w
  · rw [item, if_pos z5, itemP, if_pos z]
