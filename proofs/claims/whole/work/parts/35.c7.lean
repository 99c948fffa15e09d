/-! ===== the class: marks ===== -/
def withTr (A : Ab) (x : Int64) : Ab := (A.1, A.2.1, A.2.2.1, A.2.2.2.1, A.2.2.2.2.1, x)
def markVal (k : Int) (N p t l n : Int32) : Int32 := if k = 0 then N else if k = 1 then N * 2 else if k = 2 then N + p else if k = 3 then N * 2 + t else if k = 4 then N + p - l else N + n
def markInc (k : Int) : Int64 := if k = 0 then 1 else if k = 1 then 11 else if k = 2 then 101 else if k = 3 then 1011 else if k = 4 then 10101 else 100001
abbrev markOk (A : Ab) (k p t : Int32) : Prop := (0 ≤ k.toInt ∧ k.toInt ≤ 5) ∧ (0 ≤ p.toInt ∧ p.toInt < (A.1.length : Int)) ∧ (0 ≤ t.toInt ∧ t.toInt < 4)
def S_mark (A : Ab) (k p t : Int32) : Int32 × Ab :=
  if markOk A k p t then (markVal k.toInt (nI (bcnt ((tale A t.toNatClampNeg 0).2.1 p.toNatClampNeg).toNatClampNeg)) p t ((tale A t.toNatClampNeg 0).1 p.toNatClampNeg) (nI A.2.1.1.length), withTr A (A.2.2.2.2.2 + markInc k.toInt))
  else (-1000000, A)
theorem RepC.tr {σ : Sg} {A : Ab} {x : Int64} (h : RepC σ A) : RepC (sl σ 10 x) (withTr A x) := by
  obtain ⟨h1, h2, h3, h4, h5, h6⟩ := h
  have im : ∀ k o u, ImC σ k o u → ImC (sl σ 10 x) k o u := by
    intro k o u hu
    cases u with
    | none => exact hu
    | some u => exact hu
  exact ⟨h1, h2, h3, im _ _ _ h4, im _ _ _ h5, by rw [gl_sl, if_pos rfl]; rfl⟩
theorem C_saying {E : EV} {Q : Sg → Int32 → Prop} {σ : Sg} {p m : Nat} (hp : p < 8) (hm : m < 256) (he : gm σ 38 p = nI m) (hq : Q (sl σ 10 (gl σ 10 + 1)) (nI (bcnt m))) : MetI E mi_X5_markSaying [.ref 0, .int (nI p)] σ Q := by
  refine M_X5_markSaying ⟨vpn hp (by omega), ?_⟩
  rw [cl (by omega), he]
  exact C_bits hm hq
theorem slsl {σ : Sg} {x y : Int64} : sl (sl σ 10 x) 10 y = sl σ 10 y := by
  have : (fun j => if j = 10 then y else (fun j => if j = 10 then x else σ.2.1 j) j) = fun j => if j = 10 then y else σ.2.1 j := by
    funext j
    by_cases h : j = 10
    · rw [if_pos h, if_pos h]
    · rw [if_neg h, if_neg h]; exact if_neg h
  show (σ.1, (fun j => if j = 10 then y else (fun j => if j = 10 then x else σ.2.1 j) j), σ.2.2) = (σ.1, (fun j => if j = 10 then y else σ.2.1 j), σ.2.2)
  rw [this]
theorem gl10 {σ : Sg} {x : Int64} : gl (sl σ 10 x) 10 = x := by rw [gl_sl, if_pos rfl]
theorem add64 (a b c : Int64) : a + b + c = a + (b + c) := Int64.add_assoc a b c
theorem C_mark {E : EV} {Q : Sg → Int32 → Prop} {σ : Sg} {A : Ab} {k p t : Int32} (h : RepC σ A) (g : Good A) (hq : ∀ τ, Fr 0 39 σ τ → RepC τ (S_mark A k p t).2 → Q τ (S_mark A k p t).1) : MetI E mi_X5_mark [.ref 0, .int k, .int p, .int t] σ Q := by
  have hP := g.1.1
  have bad : ¬ markOk A k p t → Q σ (-1000000) := fun z => by
    have := hq σ Fr.rf
    rw [S_mark, if_neg z] at this
    exact this h
  refine M_X5_mark ⟨fun q => ?_, fun q => ⟨fun q2 => ?_, fun q2 => C_knows_3 h.1.1 hP ⟨fun r => ?_, fun r => C_thing ⟨fun r2 => ?_, fun r2 => ?_⟩⟩⟩⟩
  · simp only [Int32.lt_iff_toInt_lt, Int32.le_iff_toInt_le, ← Int32.toInt_inj, iv_m9, iv_m3, iv_m2, iv_m1, iv_0, iv_1, iv_2, iv_3, iv_4, iv_5, iv_6, iv_7, iv_8, iv_9, iv_32, iv_40, iv_99, iv_100, iv_400] at q; exact bad (fun z => by have := z.1; omega)
  · simp only [Int32.lt_iff_toInt_lt, Int32.le_iff_toInt_le, ← Int32.toInt_inj, iv_m9, iv_m3, iv_m2, iv_m1, iv_0, iv_1, iv_2, iv_3, iv_4, iv_5, iv_6, iv_7, iv_8, iv_9, iv_32, iv_40, iv_99, iv_100, iv_400] at q q2; exact bad (fun z => by have := z.1; omega)
  · rw [bi_0] at r; exact bad (fun z => r z.2.1)
  · rw [bi_n0] at r r2
    simp only [Int32.lt_iff_toInt_lt, Int32.le_iff_toInt_le, ← Int32.toInt_inj, iv_m9, iv_m3, iv_m2, iv_m1, iv_0, iv_1, iv_2, iv_3, iv_4, iv_5, iv_6, iv_7, iv_8, iv_9, iv_32, iv_40, iv_99, iv_100, iv_400] at q q2
    have ok : markOk A k p t := ⟨by omega, r, r2⟩
    obtain ⟨p', hp, rfl, ep⟩ := ge0 (x := p) r.1
    obtain ⟨t', ht, rfl, et⟩ := ge0 (x := t) r2.1
    refine C_tell h g (by omega) (fun τ S f hS hA => ?_)
    obtain ⟨m, hm, em⟩ := Ms_tale (t := t') (set := 0) g p' (by omega)
    have e38 : gm τ 38 p' = nI m := by rw [show gm τ 38 = S.2.1 from hS.2.2.1, hA.2.1 p' (by omega), em]
    have e37 : gm τ 37 p' = (tale A t' 0).1 p' := by rw [show gm τ 37 = S.1 from hS.2.1, hA.1 p' (by omega)]
    have hR : RepC τ A := h.fr f (by omega)
    have e505 : gi τ 505 = nI A.2.1.1.length := hR.2.1.1
    have e10 : gl τ 10 = A.2.2.2.2.2 := hR.2.2.2.2.2
    have fin : ∀ (x : Int64) (v : Int32), x = A.2.2.2.2.2 + markInc k.toInt → v = markVal k.toInt (nI (bcnt m)) (nI p') (nI t') ((tale A t' 0).1 p') (nI A.2.1.1.length) → Q (sl τ 10 x) v := by
      intro x v hx hv
      have := hq (sl τ 10 x) ((f.mono (by omega) (by omega)).sl (by omega) (by omega))
      rw [S_mark, if_pos ok, cl hp, cl ht, em, cl (by omega), ← hx, ← hv] at this
      exact this hR.tr
    refine ⟨fun z => ?_, fun z => ?_, fun z => ?_, fun z => ?_, fun z => ?_, fun z => ?_⟩
    · refine C_saying (by omega) hm e38 (fin _ _ ?_ ?_)
      · rw [e10, markInc, if_pos (by omega)]
      · rw [markVal, if_pos (by omega)]
    · refine M_X5_markHeard (C_saying (by omega) hm e38 ?_)
      rw [slsl, gl10, e10, add64]
      refine fin _ _ ?_ ?_
      · rw [markInc, if_neg (by omega), if_pos (by omega)]; rfl
      · rw [markVal, if_neg (by omega), if_pos (by omega)]
    · refine M_X5_markOwn (C_saying (by omega) hm e38 ?_)
      rw [slsl, gl10, e10, add64]
      refine fin _ _ ?_ ?_
      · rw [markInc, if_neg (by omega), if_neg (by omega), if_pos (by omega)]; rfl
      · rw [markVal, if_neg (by omega), if_neg (by omega), if_pos (by omega)]
    · refine M_X5_markSong (M_X5_markHeard (C_saying (by omega) hm e38 ?_))
      rw [slsl, slsl, gl10, gl10, e10, add64, add64]
      refine fin _ _ ?_ ?_
      · rw [markInc, if_neg (by omega), if_neg (by omega), if_neg (by omega), if_pos (by omega)]; rfl
      · rw [markVal, if_neg (by omega), if_neg (by omega), if_neg (by omega), if_pos (by omega)]
    · refine M_X5_markHum (M_X5_markOwn (C_saying (by omega) hm e38 ⟨vpn (by omega) (by omega), ?_⟩))
      rw [slsl, slsl, gl10, gl10, e10, add64, add64, gm_sl, cl hp, e37]
      refine fin _ _ ?_ ?_
      · rw [markInc, if_neg (by omega), if_neg (by omega), if_neg (by omega), if_neg (by omega), if_pos (by omega)]; rfl
      · rw [markVal, if_neg (by omega), if_neg (by omega), if_neg (by omega), if_neg (by omega), if_pos (by omega)]
    · refine M_X5_markWritten (C_saying (by omega) hm e38 ?_)
      rw [slsl, gl10, e10, add64, gi_sl, e505]
      refine fin _ _ ?_ ?_
      · rw [markInc, if_neg (by omega), if_neg (by omega), if_neg (by omega), if_neg (by omega), if_neg (by omega)]; rfl
      · rw [markVal, if_neg (by omega), if_neg (by omega), if_neg (by omega), if_neg (by omega), if_neg (by omega)]
  · rw [bi_0] at r2; exact bad (fun z => r2 z.2.2)
