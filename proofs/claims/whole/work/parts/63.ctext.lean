/-! ===== the class: events' ITEMS, whole texts ===== -/
theorem TkC.val {σ : Sg} {X : List Nat} {p : Nat} (h : TkC σ X p) (k : kd X p = 7) : gi σ 1105 = nI (vl X p) ∧ vl X p ≤ 99 := by
  rcases h.2 with w | w | w | w | w
  · exact absurd (w.2.symm.trans k) (by decide)
  · have := @mean_le (cdW X (tok X p).2.1 (tok X p).2.2.1)
    exact absurd (w.2.1.symm.trans k) (by omega)
  · exact w.2.2
  · exact absurd (w.2.symm.trans k) (by decide)
  · exact absurd (w.2.symm.trans k) (by decide)
theorem lastD_app {L : List Ev} {e : Ev} : lastD (L ++ [e]) = e.2.1 := by
  rw [lastD, if_neg (by simp), List.length_append]
  show (ge (L ++ [e]) (L.length + 1 - 1)).2.1 = _
  rw [Nat.add_sub_cancel, ge_last]
/-- what has been read so far -/
def okR (P : List Nat) (L : List Ev) : Prop := okP P ∧ okTl P.length (L, lastD L)
theorem okR_E {P : List Nat} {L : List Ev} {k d a b : Nat} (h : okR P L) (hk : k ≤ 4) (hr : L.length < 40 ∧ (k = 1 → mc L < 6)) (hd : lastD L ≤ d) (hd2 : d ≤ 99) (ha : a < P.length) (hb : bOk k a b P.length) : okR P (L ++ [(k, d, a, b)]) := by
  obtain ⟨hP, h1, h2, h3, h4, h5, h6⟩ := h
  have h1 : L.length ≤ 40 := h1
  have h2 : mc L ≤ 6 := h2
  have len : (L ++ [(k, d, a, b)]).length = L.length + 1 := by rw [List.length_append]; rfl
  refine ⟨hP, ?_, ?_, ?_, fun j hj => ?_, fun i j hij hj => ?_, fun j hj => ?_⟩
  · show (L ++ [_]).length ≤ 40; omega
  · show mc (L ++ [_]) ≤ 6
    rw [mc_app, mc_one]
    show mc L + (if k = 1 then 1 else 0) ≤ 6
    split
    · rename_i z; have := hr.2 z; omega
    · omega
  · show lastD (L ++ [_]) ≤ 99; rw [lastD_app]; exact hd2
  · have hj : j < L.length + 1 := by rw [← len]; exact hj
    show okE P.length (ge (L ++ [_]) j)
    rcases (show j < L.length ∨ j = L.length by omega) with z | z
    · rw [ge_app z]; exact h4 j z
    · rw [z, ge_last]; exact ⟨hk, ha, hb.1, hb.2⟩
  · have hj : j < L.length + 1 := by rw [← len]; exact hj
    show (ge (L ++ [_]) i).2.1 ≤ (ge (L ++ [_]) j).2.1
    rcases (show j < L.length ∨ j = L.length by omega) with z | z
    · rw [ge_app z, ge_app (by omega)]; exact h5 i j hij z
    · rw [z, ge_last]
      show _ ≤ d
      rcases (show i < L.length ∨ i = L.length by omega) with y | y
      · rw [ge_app y]
        have : (ge L i).2.1 ≤ lastD L := h6 i y
        omega
      · rw [y, ge_last]; exact Nat.le_refl _
  · have hj : j < L.length + 1 := by rw [← len]; exact hj
    show (ge (L ++ [_]) j).2.1 ≤ lastD (L ++ [_])
    rw [lastD_app]
    show _ ≤ d
    rcases (show j < L.length ∨ j = L.length by omega) with y | y
    · rw [ge_app y]
      have : (ge L j).2.1 ≤ lastD L := h6 j y
      omega
    · rw [y, ge_last]; exact Nat.le_refl _
theorem okR_P {P : List Nat} {L : List Ev} {v : Nat} (h : okR P L) (h8 : P.length < 8) (hv : v < 4) : okR (P ++ [v]) L := by
  obtain ⟨hP, h1, h2, h3, h4, h5, h6⟩ := h
  have len : (P ++ [v]).length = P.length + 1 := by rw [List.length_append]; rfl
  refine ⟨⟨by omega, fun k hk => ?_⟩, h1, h2, h3, fun j hj => ?_, h5, h6⟩
  · rw [len] at hk
    rcases (show k < P.length ∨ k = P.length by omega) with z | z
    · rw [gd_app z]; exact hP.2 k z
    · rw [z, gd_last]; exact hv
  · obtain ⟨a1, a2, a3, a4⟩ := h4 j hj
    refine ⟨a1, by omega, fun z => ⟨by have := (a3 z).1; omega, (a3 z).2⟩, a4⟩
theorem C_evItem {E : EV} {Q : Sg → Int32 → Prop} {σ : Sg} {X : List Nat} {p : Nat} {P : List Nat} {L : List Ev} (hX : okX X) (h : TxC σ X) (hp : p ≤ X.length) (hT : TkC σ X p) (hk : kd X p ≤ 4) (hF : FoC σ 12 P) (hE : EvC σ 14 (L, lastD L)) (hR : okR P L) (hqF : ∀ s, itemE X p P L = .inl s → ∀ τ, Fr 11 19 σ τ → gi τ 1106 = nI s → Q τ 0) (hqO : ∀ p' P' L', itemE X p P L = .inr (p', P', L') → ∀ τ, Fr 11 19 σ τ → gi τ 1103 = nI p' → FoC τ 12 P' → EvC τ 14 (L', lastD L') → Q τ 1) : MetI E mi_X2_readEvent [.ref 11, .int (nI (kd X p))] σ Q := by
  have hP := hR.1.1
  have hL : L.length ≤ 40 := hR.2.1
  have hM : mc L ≤ 6 := hR.2.2.1
  have hD : lastD L ≤ 99 := hR.2.2.2.1
  have ek := nIt (n := kd X p) (by omega)
  have i3 : (99 : Int32).toInt = 99 := by decide
  have x5 : gi σ 1405 = nI L.length := hE.1
  have x6 : gi σ 1406 = nI (mc L) := hE.2.1
  have x7 : gi σ 1407 = nI (lastD L) := hE.2.2.1
  refine M_X2_readEvent_11 (C_room_14 x5 x6 ⟨hL, hM⟩ ⟨fun z => ?_, fun z => ?_⟩)
  · rw [bi_0, ek] at z
    have z : ¬ (L.length < 40 ∧ (kd X p = 1 → mc L < 6)) := fun w => z ⟨w.1, fun y => w.2 (by omega)⟩
    exact hqF (st X p) (by rw [itemE, if_pos z]) σ Fr.rf hT.1.2
  · rw [bi_n0, ek] at z
    have z0 : L.length < 40 ∧ (kd X p = 1 → mc L < 6) := ⟨z.1, fun w => z.2 (by omega)⟩
    rw [x7]
    refine C_number (lo := lastD L) hX h (en_le hp) hT.1.1 hD (fun τ1 f1 hT1 => ⟨fun y => ?_, fun y => ?_⟩)
    · rw [bi_n0, i3] at y
      have z1 : numOk X (en X p) (lastD L) 99 := y
      obtain ⟨v1, w1⟩ := hT1.val z1.1
      have hF1 := hF.fr f1 (by omega)
      have en1 : gi τ1 1201 - 1 = nI P.length - 1 := by rw [hF1.1]
      have i4 : (nI P.length - 1).toInt = (P.length : Int) - 1 := by rw [show (1 : Int32) = nI 1 from rfl, pk_sub_toInt (by omega) (by omega)]; rfl
      rw [en1]
      refine C_number (lo := 0) hX (h.fr f1 (by omega)) (en_le (en_le hp)) hT1.1.1 (by omega) (fun τ2 f2 hT2 => ⟨fun y => ?_, fun y => ?_⟩)
      · rw [bi_n0, i4] at y
        have z2 : numOk X (en X (en X p)) 0 ((P.length : Int) - 1) := y
        obtain ⟨v2, w2⟩ := hT2.val z2.1
        have f12 := f1.tr f2
        refine C_number (lo := 0) hX (h.fr f12 (by omega)) (en_le (en_le (en_le hp))) hT2.1.1 (by omega) (fun τ3 f3 hT3 => ⟨fun y => ?_, fun y => ?_⟩)
        · rw [bi_0, i3] at y
          have z3 : ¬ (numOk X (en X (en X (en X p))) 0 99 ∧ bOk (kd X p) (vl X (en X (en X p))) (vl X (en X (en X (en X p)))) P.length) := fun w => y w.1
          exact hqF (st X (en X (en X (en X p)))) (by rw [itemE, if_neg (fun w => w z0), if_neg (fun w => w z1), if_neg (fun w => w z2), if_pos z3]) τ3 ((f12.tr f3).mono (by omega) (by omega)) hT3.1.2
        · rw [bi_n0, i3] at y
          have z3 : numOk X (en X (en X (en X p))) 0 99 := y
          obtain ⟨v3, w3⟩ := hT3.val z3.1
          have f13 := f12.tr f3
          have hF3 := hF.fr f13 (by omega)
          rw [v2, v3]
          have hb : ((nI (kd X p)).toInt ≤ 1 → (0 ≤ (nI (vl X (en X (en X (en X p))))).toInt ∧ (nI (vl X (en X (en X (en X p))))).toInt < (P.length : Int)) ∧ (nI (vl X (en X (en X (en X p))))).toInt ≠ (nI (vl X (en X (en X p)))).toInt) ∧ (2 ≤ (nI (kd X p)).toInt → 0 ≤ (nI (vl X (en X (en X (en X p))))).toInt ∧ (nI (vl X (en X (en X (en X p))))).toInt < 4) ↔ bOk (kd X p) (vl X (en X (en X p))) (vl X (en X (en X (en X p)))) P.length := by
            rw [ek, nIt (n := vl X (en X (en X (en X p)))) (by omega), nIt (n := vl X (en X (en X p))) (by omega)]
            constructor
            · rintro ⟨a1, a2⟩
              exact ⟨fun c => ⟨by have := (a1 (by omega)).1; omega, by have := (a1 (by omega)).2; omega⟩, fun c => by have := a2 (by omega); omega⟩
            · rintro ⟨a1, a2⟩
              exact ⟨fun c => ⟨by have := (a1 (by omega)).1; omega, by have := (a1 (by omega)).2; omega⟩, fun c => by have := a2 (by omega); omega⟩
          refine C_allows_12 hF3.1 hP (by omega) ⟨fun y => ?_, fun y => ?_⟩
          · rw [bi_n0, hb] at y
            refine C_stop hX (h.fr f13 (by omega)) (en_le (en_le (en_le (en_le hp)))) hT3.1.1 (fun τ4 f4 hT4 => ⟨fun y4 => ?_, fun y4 => ?_⟩)
            · rw [bi_n0] at y4
              have z4 : kd X (en X (en X (en X (en X p)))) = 8 := y4
              have f14 := f13.tr f4
              rw [v1, v3]
              have hE4 : EvC (si τ4 1407 (nI (vl X (en X p)))) 14 (L, vl X (en X p)) := by
                obtain ⟨e1, e2, e3, e4⟩ := hE.fr f14 (by omega)
                exact ⟨e1, e2, rfl, e4⟩
              refine C_add_14 hE4 (by omega) ⟨hL, hM⟩ z0 (fun τ5 f5 hE5 => ?_)
              have hfr : Fr 11 19 σ τ5 := ((f14.mono (by omega) (by omega)).si (by omega) (by omega)).tr (f5.mono (by omega) (by omega))
              refine hqO (en X (en X (en X (en X (en X p))))) P (L ++ [(kd X p, vl X (en X p), vl X (en X (en X p)), vl X (en X (en X (en X p))))]) (by rw [itemE, if_neg (fun w => w z0), if_neg (fun w => w z1), if_neg (fun w => w z2), if_neg (fun w => w ⟨z3, y⟩), if_neg (fun w => w z4)]) τ5 hfr ?_ ?_ ?_
              · rw [f5.gi (by omega), gi_si_n (by omega)]; exact hT4.1.1
              · exact (hF.fr f14 (by omega)).fr ((Fr.si Fr.rf (lo := 14) (hi := 19) (by omega) (by omega)).tr f5) (by omega)
              · rw [lastD_app]; exact hE5
            · rw [bi_0] at y4
              have z4 : ¬ kd X (en X (en X (en X (en X p)))) = 8 := y4
              exact hqF (st X (en X (en X (en X (en X p))))) (by rw [itemE, if_neg (fun w => w z0), if_neg (fun w => w z1), if_neg (fun w => w z2), if_neg (fun w => w ⟨z3, y⟩), if_pos z4]) τ4 ((f13.tr f4).mono (by omega) (by omega)) hT4.1.2
          · rw [bi_0, hb] at y
            exact hqF (st X (en X (en X (en X p)))) (by rw [itemE, if_neg (fun w => w z0), if_neg (fun w => w z1), if_neg (fun w => w z2), if_pos (fun w => y w.2)]) τ3 (f13.mono (by omega) (by omega)) hT3.1.2
      · rw [bi_0, i4] at y
        have z2 : ¬ numOk X (en X (en X p)) 0 ((P.length : Int) - 1) := y
        exact hqF (st X (en X (en X p))) (by rw [itemE, if_neg (fun w => w z0), if_neg (fun w => w z1), if_pos z2]) τ2 ((f1.tr f2).mono (by omega) (by omega)) hT2.1.2
    · rw [bi_0, i3] at y
      have z1 : ¬ numOk X (en X p) (lastD L) 99 := y
      exact hqF (st X (en X p)) (by rw [itemE, if_neg (fun w => w z0), if_pos z1]) τ1 (f1.mono (by omega) (by omega)) hT1.1.2
