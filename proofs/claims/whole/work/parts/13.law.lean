def R_law : String := "ThreeVoicesLaw"
def lw_P (b : Addr) (xs : List Int32) (args : Array Value) (s : State) : Prop := args = #[.ref b] ∧ s.IntsAt b xs ∧ xs.length ≤ 3072 ∧ (Jvm.Cond.and given_1 narrow_1).before args s = true
def lw_Q (_ : Array Value) (s : State) (o : Outcome) (t : State) : Prop := o = .returned (some (.int 1)) ∧ Framed s o t [] 600000 7302250
def lw_Z (below : List Frame) (a : Array Value) (s : State) : State → Prop := fun t => ∃ o, t.status = .running ∧ Ended t below o ∧ lw_Q a s o t
/-- the law's own end, with 1 on the stack, nothing written that was there before, its room as the claim has it -/
theorem lw_ret {p : Program} {l : Launch} {e : Env} {s : State} {m : MethodId} {below : List Frame} {meth : Method} {c : Code} {b : Nat} (hx : p.tables.exec = Jvm.exec) (hb : c.code = code) (hr : meth.sig.returnType = ret) (hlocks : meth.locks = false) {pc : Nat} {H : Heap} {ls : Array Slot} (hdg : decode code pc = .ok (.ireturn, 1)) : W p l e room_1 s m #[Value.ref b] below meth c H [] 600000 7302250 (lw_Z below #[Value.ref b] s) (F0 m pc ls [.int 1]) := by
  intro T hT X
  obtain ⟨fs, hret, hrun, hended, hW, hframe⟩ := X.leave (v := some (.int 1)) (hlocks := hlocks) (fun h => by rw [hr] at h; cases h)
  have hmeth' : T.vm.method? m = some meth := X.method'
  refine ⟨T.setFrames fs, ?_, .returned (some (.int 1)), hrun, hended, rfl, ⟨_, rfl⟩, hW, hframe⟩
  jvm_step X.here [X.here.top, hx, hb, hdg, hmeth', hr, ret, narrow_b1]
  (try refine ⟨rfl, ?_⟩); (try refine ⟨rfl, ?_⟩)
  first | (intro acts; rw [hret _ acts rfl rfl rfl]) | rw [hret _ _ rfl rfl rfl]
  exact Steps.refl _
/-- what holds at the law's entry: the machine, the code, the tables' words (any of lw_tbl by 'hts w (by decide +kernel)'), the script of L ints xs at the cell b, what the Statement gives of the start (any of its parts by flat_of_before) -/
def lw_At (p : Program) (s : State) (m : MethodId) (meth : Method) (c : Code) (b L : Nat) (xs : Nat → Int32) : Prop :=
  p.tables.exec = Jvm.exec ∧ c.code = code ∧ meth.sig.returnType = ret ∧ c.maxLocals = 4 ∧ s.vm.findClass R_law = some m.cls ∧ (∀ w ∈ lw_tbl, w.before #[Value.ref b] s = true) ∧ va_X b L xs s s.heap ∧ b < s.heap.size ∧ meth.locks = false ∧ (Jvm.Cond.and given_1 narrow_1).before #[Value.ref b] s = true
theorem bp_31 : (Int8.ofInt (31)).toInt32 = 31 := by decide
def mi_law : MI := (yL_law, cL_law, 4, ret, 20)
/-- the law's own end: everything that is new is its own -/
def tgL (E : EV) (b n : Nat) (xs : Nat → Int32) (nc ns : Nat) : Tgt := (room_1, nc, ns, fun s => (fun q => s.heap.size ≤ q), fun below _ s => lw_Z below #[Value.ref b] s, fun meth args s => args = #[Value.ref b] ∧ va_X b n xs s s.heap ∧ b < s.heap.size ∧ E.1 999 = b ∧ meth.sig.returnType = ret ∧ meth.locks = false ∧ nc ≤ 600000 ∧ ns ≤ 7302250)
def lawC : Nat := 58
def lawS : Nat := 9084
theorem okL {E : EV} {b n : Nat} {xs : Nat → Int32} {mi1 : MI} (h : mi1.2.2.2.2 ≤ 30 ∧ mi1.2.2.1 ≤ 45) : okT (tgL E b n xs lawC lawS) mi1 := by
  refine ⟨⟨?_, ?_⟩, Nat.le_of_ble_eq_true rfl, Nat.le_of_ble_eq_true rfl⟩
  · show mi1.2.2.2.2 + 1 ≤ 2048
    omega
  · show 8 + (mi1.2.2.1 + 11) + 64 * mi1.2.2.2.2 ≤ 84000
    omega
theorem x_slen {E : EV} {b n pc : Nat} {xs : Nat → Int32} {L : List (Option Value)} {st : List Value} {σ : Sg} (hd : decode mi_law.2.1 pc = .ok (.arraylength, 1)) (k : J E mi_law (tgL E b n xs lawC lawS) (pc + 1) L (.int (Int32.ofNat n) :: st) σ) : J E mi_law (tgL E b n xs lawC lawS) pc L (.ref 999 :: st) σ := by
  intro p l e s m args below meth c C H locs ls hP hS hl
  obtain ⟨hx, hb, hml, hown, hts, hK, hI, hA, hStr, ⟨ha, hX, hbl, h999, hr, hlk, -, -⟩⟩ := id C
  have k2 := k p l e s m args below meth c C H locs ls hP hS hl
  show W _ _ _ _ _ _ _ _ _ _ _ _ _ _ _ (F0 m pc ls (.ref (E.1 999) :: st.map (cv E.1)))
  rw [h999]
  exact va_slen hx hb hX hbl (Nat.not_le.mpr hbl) hS hd k2
theorem x_sld {E : EV} {b n pc : Nat} {xs : Nat → Int32} {L : List (Option Value)} {st : List Value} {σ : Sg} {j : Int32} (hin : vp_in j n) (hd : decode mi_law.2.1 pc = .ok (.iaload, 1)) (k : J E mi_law (tgL E b n xs lawC lawS) (pc + 1) L (.int (xs j.toNatClampNeg) :: st) σ) : J E mi_law (tgL E b n xs lawC lawS) pc L (.int j :: .ref 999 :: st) σ := by
  intro p l e s m args below meth c C H locs ls hP hS hl
  obtain ⟨hx, hb, hml, hown, hts, hK, hI, hA, hStr, ⟨ha, hX, hbl, h999, hr, hlk, -, -⟩⟩ := id C
  have k2 := k p l e s m args below meth c C H locs ls hP hS hl
  show W _ _ _ _ _ _ _ _ _ _ _ _ _ _ _ (F0 m pc ls (.int j :: .ref (E.1 999) :: st.map (cv E.1)))
  rw [h999]
  exact va_sld hx hb hX hbl (Nat.not_le.mpr hbl) hS hin hd k2
theorem x_lawret {E : EV} {b n pc : Nat} {xs : Nat → Int32} {L : List (Option Value)} {σ : Sg} (hd : decode mi_law.2.1 pc = .ok (.ireturn, 1)) : J E mi_law (tgL E b n xs lawC lawS) pc L [.int 1] σ := by
  intro p l e s m args below meth c C H locs ls hP hS hl
  obtain ⟨hx, hb, hml, hown, hts, hK, hI, hA, hStr, ⟨ha, hX, hbl, h999, hr, hlk, h1, h2⟩⟩ := id C
  subst ha
  refine va_forget (fun q hq => hS.2.2 q hq) ?_
  refine W.widen (k := 600000) (n := 7302250) h1 h2 ?_
  exact lw_ret hx hb hr hlk hd
def K_law_18 (E : EV) (b n : Nat) (xs : Nat → Int32) (σ : Sg) (v3 : Int32) : Prop := J E mi_law (tgL E b n xs lawC lawS) 18 [some (.ref 999), some (.ref 0), some (.ref 40), some (.int v3)] [] σ
def K_law_148 (E : EV) (b n : Nat) (xs : Nat → Int32) (σ : Sg) (v3 : Int32) : Prop := J E mi_law (tgL E b n xs lawC lawS) 148 [some (.ref 999), some (.ref 0), some (.ref 40), some (.int v3)] [] σ
def K_law_211 (E : EV) (b n : Nat) (xs : Nat → Int32) (σ : Sg) (v3 : Int32) : Prop := J E mi_law (tgL E b n xs lawC lawS) 211 [some (.ref 999), some (.ref 0), some (.ref 40), some (.int v3)] [] σ
def K_law_224 (E : EV) (b n : Nat) (xs : Nat → Int32) (σ : Sg) (v3 : Int32) : Prop := J E mi_law (tgL E b n xs lawC lawS) 224 [some (.ref 999), some (.ref 0), some (.ref 40), some (.int v3)] [] σ
def K_law_237 (E : EV) (b n : Nat) (xs : Nat → Int32) (σ : Sg) (v3 : Int32) : Prop := J E mi_law (tgL E b n xs lawC lawS) 237 [some (.ref 999), some (.ref 0), some (.ref 40), some (.int v3)] [] σ
def K_law_270 (E : EV) (b n : Nat) (xs : Nat → Int32) (σ : Sg) (v3 : Int32) : Prop := J E mi_law (tgL E b n xs lawC lawS) 270 [some (.ref 999), some (.ref 0), some (.ref 40), some (.int v3)] [] σ
def K_law_313 (E : EV) (b n : Nat) (xs : Nat → Int32) (σ : Sg) (v3 : Int32) : Prop := J E mi_law (tgL E b n xs lawC lawS) 313 [some (.ref 999), some (.ref 0), some (.ref 40), some (.int v3)] [] σ
def K_law_336 (E : EV) (b n : Nat) (xs : Nat → Int32) (σ : Sg) (v3 : Int32) : Prop := J E mi_law (tgL E b n xs lawC lawS) 336 [some (.ref 999), some (.ref 0), some (.ref 40), some (.int v3)] [] σ
def K_law_349 (E : EV) (b n : Nat) (xs : Nat → Int32) (σ : Sg) (v3 : Int32) : Prop := J E mi_law (tgL E b n xs lawC lawS) 349 [some (.ref 999), some (.ref 0), some (.ref 40), some (.int v3)] [] σ
def K_law_392 (E : EV) (b n : Nat) (xs : Nat → Int32) (σ : Sg) (v3 : Int32) : Prop := J E mi_law (tgL E b n xs lawC lawS) 392 [some (.ref 999), some (.ref 0), some (.ref 40), some (.int v3)] [] σ
def K_law_435 (E : EV) (b n : Nat) (xs : Nat → Int32) (σ : Sg) (v3 : Int32) : Prop := J E mi_law (tgL E b n xs lawC lawS) 435 [some (.ref 999), some (.ref 0), some (.ref 40), some (.int v3)] [] σ
def K_law_478 (E : EV) (b n : Nat) (xs : Nat → Int32) (σ : Sg) (v3 : Int32) : Prop := J E mi_law (tgL E b n xs lawC lawS) 478 [some (.ref 999), some (.ref 0), some (.ref 40), some (.int v3)] [] σ
def K_law_501 (E : EV) (b n : Nat) (xs : Nat → Int32) (σ : Sg) (v3 : Int32) : Prop := J E mi_law (tgL E b n xs lawC lawS) 501 [some (.ref 999), some (.ref 0), some (.ref 40), some (.int v3)] [] σ
def K_law_524 (E : EV) (b n : Nat) (xs : Nat → Int32) (σ : Sg) (v3 : Int32) : Prop := J E mi_law (tgL E b n xs lawC lawS) 524 [some (.ref 999), some (.ref 0), some (.ref 40), some (.int v3)] [] σ
def K_law_547 (E : EV) (b n : Nat) (xs : Nat → Int32) (σ : Sg) (v3 : Int32) : Prop := J E mi_law (tgL E b n xs lawC lawS) 547 [some (.ref 999), some (.ref 0), some (.ref 40), some (.int v3)] [] σ
def K_law_570 (E : EV) (b n : Nat) (xs : Nat → Int32) (σ : Sg) (v3 : Int32) : Prop := J E mi_law (tgL E b n xs lawC lawS) 570 [some (.ref 999), some (.ref 0), some (.ref 40), some (.int v3)] [] σ
def K_law_583 (E : EV) (b n : Nat) (xs : Nat → Int32) (σ : Sg) (v3 : Int32) : Prop := J E mi_law (tgL E b n xs lawC lawS) 583 [some (.ref 999), some (.ref 0), some (.ref 40), some (.int v3)] [] σ
def K_law_616 (E : EV) (b n : Nat) (xs : Nat → Int32) (σ : Sg) (v3 : Int32) : Prop := J E mi_law (tgL E b n xs lawC lawS) 616 [some (.ref 999), some (.ref 0), some (.ref 40), some (.int v3)] [] σ
def K_law_649 (E : EV) (b n : Nat) (xs : Nat → Int32) (σ : Sg) (v3 : Int32) : Prop := J E mi_law (tgL E b n xs lawC lawS) 649 [some (.ref 999), some (.ref 0), some (.ref 40), some (.int v3)] [] σ
def K_law_692 (E : EV) (b n : Nat) (xs : Nat → Int32) (σ : Sg) (v3 : Int32) : Prop := J E mi_law (tgL E b n xs lawC lawS) 692 [some (.ref 999), some (.ref 0), some (.ref 40), some (.int v3)] [] σ
def K_law_725 (E : EV) (b n : Nat) (xs : Nat → Int32) (σ : Sg) (v3 : Int32) : Prop := J E mi_law (tgL E b n xs lawC lawS) 725 [some (.ref 999), some (.ref 0), some (.ref 40), some (.int v3)] [] σ
def K_law_789 (E : EV) (b n : Nat) (xs : Nat → Int32) (σ : Sg) (v3 : Int32) : Prop := J E mi_law (tgL E b n xs lawC lawS) 789 [some (.ref 999), some (.ref 0), some (.ref 40), some (.int v3)] [] σ
def K_law_832 (E : EV) (b n : Nat) (xs : Nat → Int32) (σ : Sg) (v3 : Int32) : Prop := J E mi_law (tgL E b n xs lawC lawS) 832 [some (.ref 999), some (.ref 0), some (.ref 40), some (.int v3)] [] σ
def K_law_855 (E : EV) (b n : Nat) (xs : Nat → Int32) (σ : Sg) (v3 : Int32) : Prop := J E mi_law (tgL E b n xs lawC lawS) 855 [some (.ref 999), some (.ref 0), some (.ref 40), some (.int v3)] [] σ
def K_law_878 (E : EV) (b n : Nat) (xs : Nat → Int32) (σ : Sg) (v3 : Int32) : Prop := J E mi_law (tgL E b n xs lawC lawS) 878 [some (.ref 999), some (.ref 0), some (.ref 40), some (.int v3)] [] σ
def K_law_901 (E : EV) (b n : Nat) (xs : Nat → Int32) (σ : Sg) (v3 : Int32) : Prop := J E mi_law (tgL E b n xs lawC lawS) 901 [some (.ref 999), some (.ref 0), some (.ref 40), some (.int v3)] [] σ
def K_law_915 (E : EV) (b n : Nat) (xs : Nat → Int32) (σ : Sg) (v3 : Int32) : Prop := J E mi_law (tgL E b n xs lawC lawS) 915 [some (.ref 999), some (.ref 0), some (.ref 40), some (.int v3)] [] σ
set_option maxRecDepth 100000 in
set_option maxHeartbeats 4000000 in
theorem B_law_18 {E : EV} {b n : Nat} {xs : Nat → Int32} {σ : Sg} {v3 : Int32} (h : ((((Int32.ofNat n) - (6 : Int32)) < v3) → True) ∧ ((¬ ((Int32.ofNat n) - (6 : Int32)) < v3) → vp_in v3 n ∧ ((((xs v3.toNatClampNeg) &&& (31 : Int32)).toInt < 0 ∨ 24 < ((xs v3.toNatClampNeg) &&& (31 : Int32)).toInt) → K_law_915 E b n xs σ v3) ∧ ((((xs v3.toNatClampNeg) &&& (31 : Int32)).toInt = 0) → K_law_148 E b n xs σ v3) ∧ ((((xs v3.toNatClampNeg) &&& (31 : Int32)).toInt = 1) → K_law_211 E b n xs σ v3) ∧ ((((xs v3.toNatClampNeg) &&& (31 : Int32)).toInt = 2) → K_law_224 E b n xs σ v3) ∧ ((((xs v3.toNatClampNeg) &&& (31 : Int32)).toInt = 3) → K_law_237 E b n xs σ v3) ∧ ((((xs v3.toNatClampNeg) &&& (31 : Int32)).toInt = 4) → K_law_270 E b n xs σ v3) ∧ ((((xs v3.toNatClampNeg) &&& (31 : Int32)).toInt = 5) → K_law_313 E b n xs σ v3) ∧ ((((xs v3.toNatClampNeg) &&& (31 : Int32)).toInt = 6) → K_law_336 E b n xs σ v3) ∧ ((((xs v3.toNatClampNeg) &&& (31 : Int32)).toInt = 7) → K_law_349 E b n xs σ v3) ∧ ((((xs v3.toNatClampNeg) &&& (31 : Int32)).toInt = 8) → K_law_392 E b n xs σ v3) ∧ ((((xs v3.toNatClampNeg) &&& (31 : Int32)).toInt = 9) → K_law_435 E b n xs σ v3) ∧ ((((xs v3.toNatClampNeg) &&& (31 : Int32)).toInt = 10) → K_law_478 E b n xs σ v3) ∧ ((((xs v3.toNatClampNeg) &&& (31 : Int32)).toInt = 11) → K_law_501 E b n xs σ v3) ∧ ((((xs v3.toNatClampNeg) &&& (31 : Int32)).toInt = 12) → K_law_524 E b n xs σ v3) ∧ ((((xs v3.toNatClampNeg) &&& (31 : Int32)).toInt = 13) → K_law_547 E b n xs σ v3) ∧ ((((xs v3.toNatClampNeg) &&& (31 : Int32)).toInt = 14) → K_law_570 E b n xs σ v3) ∧ ((((xs v3.toNatClampNeg) &&& (31 : Int32)).toInt = 15) → K_law_583 E b n xs σ v3) ∧ ((((xs v3.toNatClampNeg) &&& (31 : Int32)).toInt = 16) → K_law_616 E b n xs σ v3) ∧ ((((xs v3.toNatClampNeg) &&& (31 : Int32)).toInt = 17) → K_law_649 E b n xs σ v3) ∧ ((((xs v3.toNatClampNeg) &&& (31 : Int32)).toInt = 18) → K_law_692 E b n xs σ v3) ∧ ((((xs v3.toNatClampNeg) &&& (31 : Int32)).toInt = 19) → K_law_725 E b n xs σ v3) ∧ ((((xs v3.toNatClampNeg) &&& (31 : Int32)).toInt = 20) → K_law_789 E b n xs σ v3) ∧ ((((xs v3.toNatClampNeg) &&& (31 : Int32)).toInt = 21) → K_law_832 E b n xs σ v3) ∧ ((((xs v3.toNatClampNeg) &&& (31 : Int32)).toInt = 22) → K_law_855 E b n xs σ v3) ∧ ((((xs v3.toNatClampNeg) &&& (31 : Int32)).toInt = 23) → K_law_878 E b n xs σ v3) ∧ ((((xs v3.toNatClampNeg) &&& (31 : Int32)).toInt = 24) → K_law_901 E b n xs σ v3))) : K_law_18 E b n xs σ v3 :=
 x_iload_n dL_law_18 rfl <|
 x_aload_n dL_law_19 rfl <|
 x_slen dL_law_20 <|
 x_bipush dL_law_21 bp_6 <|
 x_isub dL_law_23 <|
 x_icmp_gt (tgt := 921) dL_law_24 (by decide) (fun c1 => x_iconst dL_law_921 ic_1 <|
 x_lawret dL_law_922) (fun c1 => x_aload_n dL_law_27 rfl <|
 x_iload_n dL_law_28 rfl <|
 x_sld (h.2 c1).1 dL_law_29 <|
 x_bipush dL_law_30 bp_31 <|
 x_iand dL_law_32 <|
 x_tab dL_law_33 rfl ⟨by decide, by decide⟩ (fun c2 tgt ht => by
  have e : tgt = 915 := by omega
  subst e
  exact ((h.2 c1).2.1 c2)) (fun i off tgt ho hi ht => by
  match i, ho, hi with
  | 0, ho, hi =>
    have e0 : (115 : Int) = off := Option.some.inj ho
    have e : tgt = 148 := by omega
    subst e
    have c3 : ((xs v3.toNatClampNeg) &&& (31 : Int32)).toInt = 0 := by omega
    exact ((h.2 c1).2.2.1 c3)
  | 1, ho, hi =>
    have e0 : (178 : Int) = off := Option.some.inj ho
    have e : tgt = 211 := by omega
    subst e
    have c4 : ((xs v3.toNatClampNeg) &&& (31 : Int32)).toInt = 1 := by omega
    exact ((h.2 c1).2.2.2.1 c4)
  | 2, ho, hi =>
    have e0 : (191 : Int) = off := Option.some.inj ho
    have e : tgt = 224 := by omega
    subst e
    have c5 : ((xs v3.toNatClampNeg) &&& (31 : Int32)).toInt = 2 := by omega
    exact ((h.2 c1).2.2.2.2.1 c5)
  | 3, ho, hi =>
    have e0 : (204 : Int) = off := Option.some.inj ho
    have e : tgt = 237 := by omega
    subst e
    have c6 : ((xs v3.toNatClampNeg) &&& (31 : Int32)).toInt = 3 := by omega
    exact ((h.2 c1).2.2.2.2.2.1 c6)
  | 4, ho, hi =>
    have e0 : (237 : Int) = off := Option.some.inj ho
    have e : tgt = 270 := by omega
    subst e
    have c7 : ((xs v3.toNatClampNeg) &&& (31 : Int32)).toInt = 4 := by omega
    exact ((h.2 c1).2.2.2.2.2.2.1 c7)
  | 5, ho, hi =>
    have e0 : (280 : Int) = off := Option.some.inj ho
    have e : tgt = 313 := by omega
    subst e
    have c8 : ((xs v3.toNatClampNeg) &&& (31 : Int32)).toInt = 5 := by omega
    exact ((h.2 c1).2.2.2.2.2.2.2.1 c8)
  | 6, ho, hi =>
    have e0 : (303 : Int) = off := Option.some.inj ho
    have e : tgt = 336 := by omega
    subst e
    have c9 : ((xs v3.toNatClampNeg) &&& (31 : Int32)).toInt = 6 := by omega
    exact ((h.2 c1).2.2.2.2.2.2.2.2.1 c9)
  | 7, ho, hi =>
    have e0 : (316 : Int) = off := Option.some.inj ho
    have e : tgt = 349 := by omega
    subst e
    have c10 : ((xs v3.toNatClampNeg) &&& (31 : Int32)).toInt = 7 := by omega
    exact ((h.2 c1).2.2.2.2.2.2.2.2.2.1 c10)
  | 8, ho, hi =>
    have e0 : (359 : Int) = off := Option.some.inj ho
    have e : tgt = 392 := by omega
    subst e
    have c11 : ((xs v3.toNatClampNeg) &&& (31 : Int32)).toInt = 8 := by omega
    exact ((h.2 c1).2.2.2.2.2.2.2.2.2.2.1 c11)
  | 9, ho, hi =>
    have e0 : (402 : Int) = off := Option.some.inj ho
    have e : tgt = 435 := by omega
    subst e
    have c12 : ((xs v3.toNatClampNeg) &&& (31 : Int32)).toInt = 9 := by omega
    exact ((h.2 c1).2.2.2.2.2.2.2.2.2.2.2.1 c12)
  | 10, ho, hi =>
    have e0 : (445 : Int) = off := Option.some.inj ho
    have e : tgt = 478 := by omega
    subst e
    have c13 : ((xs v3.toNatClampNeg) &&& (31 : Int32)).toInt = 10 := by omega
    exact ((h.2 c1).2.2.2.2.2.2.2.2.2.2.2.2.1 c13)
  | 11, ho, hi =>
    have e0 : (468 : Int) = off := Option.some.inj ho
    have e : tgt = 501 := by omega
    subst e
    have c14 : ((xs v3.toNatClampNeg) &&& (31 : Int32)).toInt = 11 := by omega
    exact ((h.2 c1).2.2.2.2.2.2.2.2.2.2.2.2.2.1 c14)
  | 12, ho, hi =>
    have e0 : (491 : Int) = off := Option.some.inj ho
    have e : tgt = 524 := by omega
    subst e
    have c15 : ((xs v3.toNatClampNeg) &&& (31 : Int32)).toInt = 12 := by omega
    exact ((h.2 c1).2.2.2.2.2.2.2.2.2.2.2.2.2.2.1 c15)
  | 13, ho, hi =>
    have e0 : (514 : Int) = off := Option.some.inj ho
    have e : tgt = 547 := by omega
    subst e
    have c16 : ((xs v3.toNatClampNeg) &&& (31 : Int32)).toInt = 13 := by omega
    exact ((h.2 c1).2.2.2.2.2.2.2.2.2.2.2.2.2.2.2.1 c16)
  | 14, ho, hi =>
    have e0 : (537 : Int) = off := Option.some.inj ho
    have e : tgt = 570 := by omega
    subst e
    have c17 : ((xs v3.toNatClampNeg) &&& (31 : Int32)).toInt = 14 := by omega
    exact ((h.2 c1).2.2.2.2.2.2.2.2.2.2.2.2.2.2.2.2.1 c17)
  | 15, ho, hi =>
    have e0 : (550 : Int) = off := Option.some.inj ho
    have e : tgt = 583 := by omega
    subst e
    have c18 : ((xs v3.toNatClampNeg) &&& (31 : Int32)).toInt = 15 := by omega
    exact ((h.2 c1).2.2.2.2.2.2.2.2.2.2.2.2.2.2.2.2.2.1 c18)
  | 16, ho, hi =>
    have e0 : (583 : Int) = off := Option.some.inj ho
    have e : tgt = 616 := by omega
    subst e
    have c19 : ((xs v3.toNatClampNeg) &&& (31 : Int32)).toInt = 16 := by omega
    exact ((h.2 c1).2.2.2.2.2.2.2.2.2.2.2.2.2.2.2.2.2.2.1 c19)
  | 17, ho, hi =>
    have e0 : (616 : Int) = off := Option.some.inj ho
    have e : tgt = 649 := by omega
    subst e
    have c20 : ((xs v3.toNatClampNeg) &&& (31 : Int32)).toInt = 17 := by omega
    exact ((h.2 c1).2.2.2.2.2.2.2.2.2.2.2.2.2.2.2.2.2.2.2.1 c20)
  | 18, ho, hi =>
    have e0 : (659 : Int) = off := Option.some.inj ho
    have e : tgt = 692 := by omega
    subst e
    have c21 : ((xs v3.toNatClampNeg) &&& (31 : Int32)).toInt = 18 := by omega
    exact ((h.2 c1).2.2.2.2.2.2.2.2.2.2.2.2.2.2.2.2.2.2.2.2.1 c21)
  | 19, ho, hi =>
    have e0 : (692 : Int) = off := Option.some.inj ho
    have e : tgt = 725 := by omega
    subst e
    have c22 : ((xs v3.toNatClampNeg) &&& (31 : Int32)).toInt = 19 := by omega
    exact ((h.2 c1).2.2.2.2.2.2.2.2.2.2.2.2.2.2.2.2.2.2.2.2.2.1 c22)
  | 20, ho, hi =>
    have e0 : (756 : Int) = off := Option.some.inj ho
    have e : tgt = 789 := by omega
    subst e
    have c23 : ((xs v3.toNatClampNeg) &&& (31 : Int32)).toInt = 20 := by omega
    exact ((h.2 c1).2.2.2.2.2.2.2.2.2.2.2.2.2.2.2.2.2.2.2.2.2.2.1 c23)
  | 21, ho, hi =>
    have e0 : (799 : Int) = off := Option.some.inj ho
    have e : tgt = 832 := by omega
    subst e
    have c24 : ((xs v3.toNatClampNeg) &&& (31 : Int32)).toInt = 21 := by omega
    exact ((h.2 c1).2.2.2.2.2.2.2.2.2.2.2.2.2.2.2.2.2.2.2.2.2.2.2.1 c24)
  | 22, ho, hi =>
    have e0 : (822 : Int) = off := Option.some.inj ho
    have e : tgt = 855 := by omega
    subst e
    have c25 : ((xs v3.toNatClampNeg) &&& (31 : Int32)).toInt = 22 := by omega
    exact ((h.2 c1).2.2.2.2.2.2.2.2.2.2.2.2.2.2.2.2.2.2.2.2.2.2.2.2.1 c25)
  | 23, ho, hi =>
    have e0 : (845 : Int) = off := Option.some.inj ho
    have e : tgt = 878 := by omega
    subst e
    have c26 : ((xs v3.toNatClampNeg) &&& (31 : Int32)).toInt = 23 := by omega
    exact ((h.2 c1).2.2.2.2.2.2.2.2.2.2.2.2.2.2.2.2.2.2.2.2.2.2.2.2.2.1 c26)
  | 24, ho, hi =>
    have e0 : (868 : Int) = off := Option.some.inj ho
    have e : tgt = 901 := by omega
    subst e
    have c27 : ((xs v3.toNatClampNeg) &&& (31 : Int32)).toInt = 24 := by omega
    exact ((h.2 c1).2.2.2.2.2.2.2.2.2.2.2.2.2.2.2.2.2.2.2.2.2.2.2.2.2.2 c27)
  | n + 25, ho, hi => exact absurd ho (by simp)))
set_option maxRecDepth 100000 in
set_option maxHeartbeats 4000000 in
theorem B_law_148 {E : EV} {b n : Nat} {xs : Nat → Int32} {σ : Sg} {v3 : Int32} (h : vp_in (v3 + (1 : Int32)) n ∧ vp_in (v3 + (2 : Int32)) n ∧ vp_in (v3 + (3 : Int32)) n ∧ MetI E mi_X5_type [.ref 0, .long ((((xs (v3 + (1 : Int32)).toNatClampNeg).toInt64) <<< ((32 : Int32).toInt64 &&& 63)) ||| (((xs (v3 + (2 : Int32)).toNatClampNeg).toInt64) &&& (4294967295 : Int64))), .int (xs (v3 + (3 : Int32)).toNatClampNeg)] σ (fun τ1 r2 => MetI E mi_X6_type [.ref 40, .long ((((xs (v3 + (1 : Int32)).toNatClampNeg).toInt64) <<< ((32 : Int32).toInt64 &&& 63)) ||| (((xs (v3 + (2 : Int32)).toNatClampNeg).toInt64) &&& (4294967295 : Int64))), .int (xs (v3 + (3 : Int32)).toNatClampNeg)] τ1 (fun τ4 r5 => ((r2 = r5) → K_law_915 E b n xs τ4 v3) ∧ ((¬ r2 = r5) → False)))) : K_law_148 E b n xs σ v3 :=
 x_aload_n dL_law_148 rfl <|
 x_aload_n dL_law_149 rfl <|
 x_iload_n dL_law_150 rfl <|
 x_iconst dL_law_151 ic_1 <|
 x_iadd dL_law_152 <|
 x_sld h.1 dL_law_153 <|
 x_i2l dL_law_154 <|
 x_bipush dL_law_155 bp_32 <|
 x_lshl dL_law_157 <|
 x_aload_n dL_law_158 rfl <|
 x_iload_n dL_law_159 rfl <|
 x_iconst dL_law_160 ic_2 <|
 x_iadd dL_law_161 <|
 x_sld h.2.1 dL_law_162 <|
 x_i2l dL_law_163 <|
 x_ldc2 kc_L_13 dL_law_164 <|
 x_land dL_law_167 <|
 x_lor dL_law_168 <|
 x_aload_n dL_law_169 rfl <|
 x_iload_n dL_law_170 rfl <|
 x_iconst dL_law_171 ic_3 <|
 x_iadd dL_law_172 <|
 x_sld h.2.2.1 dL_law_173 <|
 x_callV (b := 0) (As := [.long ((((xs (v3 + (1 : Int32)).toNatClampNeg).toInt64) <<< ((32 : Int32).toInt64 &&& 63)) ||| (((xs (v3 + (2 : Int32)).toNatClampNeg).toInt64) &&& (4294967295 : Int64))), .int (xs (v3 + (3 : Int32)).toNatClampNeg)]) ok_X5_type ml_L_15 (okL ⟨Nat.le_of_ble_eq_true rfl, Nat.le_of_ble_eq_true rfl⟩) dL_law_174 rfl rfl (Nat.le_of_ble_eq_true rfl) rfl rfl rfl h.2.2.2 <|
 (kI (fun τ1 r2 h3 => x_aload_n dL_law_177 rfl <|
 x_aload_n dL_law_178 rfl <|
 x_iload_n dL_law_179 rfl <|
 x_iconst dL_law_180 ic_1 <|
 x_iadd dL_law_181 <|
 x_sld h.1 dL_law_182 <|
 x_i2l dL_law_183 <|
 x_bipush dL_law_184 bp_32 <|
 x_lshl dL_law_186 <|
 x_aload_n dL_law_187 rfl <|
 x_iload_n dL_law_188 rfl <|
 x_iconst dL_law_189 ic_2 <|
 x_iadd dL_law_190 <|
 x_sld h.2.1 dL_law_191 <|
 x_i2l dL_law_192 <|
 x_ldc2 kc_L_13 dL_law_193 <|
 x_land dL_law_196 <|
 x_lor dL_law_197 <|
 x_aload_n dL_law_198 rfl <|
 x_iload_n dL_law_199 rfl <|
 x_iconst dL_law_200 ic_3 <|
 x_iadd dL_law_201 <|
 x_sld h.2.2.1 dL_law_202 <|
 x_callV (b := 40) (As := [.long ((((xs (v3 + (1 : Int32)).toNatClampNeg).toInt64) <<< ((32 : Int32).toInt64 &&& 63)) ||| (((xs (v3 + (2 : Int32)).toNatClampNeg).toInt64) &&& (4294967295 : Int64))), .int (xs (v3 + (3 : Int32)).toNatClampNeg)]) ok_X6_type ml_L_19 (okL ⟨Nat.le_of_ble_eq_true rfl, Nat.le_of_ble_eq_true rfl⟩) dL_law_203 rfl rfl (Nat.le_of_ble_eq_true rfl) rfl rfl rfl h3 <|
 (kI (fun τ4 r5 h6 => x_icmp_eq (tgt := 915) dL_law_206 (by decide) (fun c7 => (h6.1 c7)) (fun c7 => x_iconst dL_law_209 ic_0 <|
 (h6.2 c7).elim)))))
set_option maxRecDepth 100000 in
set_option maxHeartbeats 4000000 in
theorem B_law_211 {E : EV} {b n : Nat} {xs : Nat → Int32} {σ : Sg} {v3 : Int32} (h : MetI E mi_X5_clear [.ref 0] σ (fun τ1 r2 => MetI E mi_X6_clear [.ref 40] τ1 (fun τ4 r5 => ((r2 = r5) → K_law_915 E b n xs τ4 v3) ∧ ((¬ r2 = r5) → False)))) : K_law_211 E b n xs σ v3 :=
 x_aload_n dL_law_211 rfl <|
 x_callV (b := 0) (As := []) ok_X5_clear ml_L_20 (okL ⟨Nat.le_of_ble_eq_true rfl, Nat.le_of_ble_eq_true rfl⟩) dL_law_212 rfl rfl (Nat.le_of_ble_eq_true rfl) rfl rfl rfl h <|
 (kI (fun τ1 r2 h3 => x_aload_n dL_law_215 rfl <|
 x_callV (b := 40) (As := []) ok_X6_clear ml_L_24 (okL ⟨Nat.le_of_ble_eq_true rfl, Nat.le_of_ble_eq_true rfl⟩) dL_law_216 rfl rfl (Nat.le_of_ble_eq_true rfl) rfl rfl rfl h3 <|
 (kI (fun τ4 r5 h6 => x_icmp_eq (tgt := 915) dL_law_219 (by decide) (fun c7 => (h6.1 c7)) (fun c7 => x_iconst dL_law_222 ic_0 <|
 (h6.2 c7).elim)))))
set_option maxRecDepth 100000 in
set_option maxHeartbeats 4000000 in
theorem B_law_224 {E : EV} {b n : Nat} {xs : Nat → Int32} {σ : Sg} {v3 : Int32} (h : MetI E mi_X5_tell [.ref 0] σ (fun τ1 r2 => MetI E mi_X6_tell [.ref 40] τ1 (fun τ4 r5 => ((r2 = r5) → K_law_915 E b n xs τ4 v3) ∧ ((¬ r2 = r5) → False)))) : K_law_224 E b n xs σ v3 :=
 x_aload_n dL_law_224 rfl <|
 x_callV (b := 0) (As := []) ok_X5_tell ml_L_25 (okL ⟨Nat.le_of_ble_eq_true rfl, Nat.le_of_ble_eq_true rfl⟩) dL_law_225 rfl rfl (Nat.le_of_ble_eq_true rfl) rfl rfl rfl h <|
 (kI (fun τ1 r2 h3 => x_aload_n dL_law_228 rfl <|
 x_callV (b := 40) (As := []) ok_X6_tell ml_L_28 (okL ⟨Nat.le_of_ble_eq_true rfl, Nat.le_of_ble_eq_true rfl⟩) dL_law_229 rfl rfl (Nat.le_of_ble_eq_true rfl) rfl rfl rfl h3 <|
 (kI (fun τ4 r5 h6 => x_icmp_eq (tgt := 915) dL_law_232 (by decide) (fun c7 => (h6.1 c7)) (fun c7 => x_iconst dL_law_235 ic_0 <|
 (h6.2 c7).elim)))))
set_option maxRecDepth 100000 in
set_option maxHeartbeats 4000000 in
theorem B_law_237 {E : EV} {b n : Nat} {xs : Nat → Int32} {σ : Sg} {v3 : Int32} (h : vp_in (v3 + (1 : Int32)) n ∧ vp_in (v3 + (2 : Int32)) n ∧ MetI E mi_X5_event [.ref 0, .int (xs (v3 + (1 : Int32)).toNatClampNeg), .int (xs (v3 + (2 : Int32)).toNatClampNeg)] σ (fun τ1 r2 => MetI E mi_X6_event [.ref 40, .int (xs (v3 + (1 : Int32)).toNatClampNeg), .int (xs (v3 + (2 : Int32)).toNatClampNeg)] τ1 (fun τ4 r5 => ((r2 = r5) → K_law_915 E b n xs τ4 v3) ∧ ((¬ r2 = r5) → False)))) : K_law_237 E b n xs σ v3 :=
 x_aload_n dL_law_237 rfl <|
 x_aload_n dL_law_238 rfl <|
 x_iload_n dL_law_239 rfl <|
 x_iconst dL_law_240 ic_1 <|
 x_iadd dL_law_241 <|
 x_sld h.1 dL_law_242 <|
 x_aload_n dL_law_243 rfl <|
 x_iload_n dL_law_244 rfl <|
 x_iconst dL_law_245 ic_2 <|
 x_iadd dL_law_246 <|
 x_sld h.2.1 dL_law_247 <|
 x_callV (b := 0) (As := [.int (xs (v3 + (1 : Int32)).toNatClampNeg), .int (xs (v3 + (2 : Int32)).toNatClampNeg)]) ok_X5_event ml_L_29 (okL ⟨Nat.le_of_ble_eq_true rfl, Nat.le_of_ble_eq_true rfl⟩) dL_law_248 rfl rfl (Nat.le_of_ble_eq_true rfl) rfl rfl rfl h.2.2 <|
 (kI (fun τ1 r2 h3 => x_aload_n dL_law_251 rfl <|
 x_aload_n dL_law_252 rfl <|
 x_iload_n dL_law_253 rfl <|
 x_iconst dL_law_254 ic_1 <|
 x_iadd dL_law_255 <|
 x_sld h.1 dL_law_256 <|
 x_aload_n dL_law_257 rfl <|
 x_iload_n dL_law_258 rfl <|
 x_iconst dL_law_259 ic_2 <|
 x_iadd dL_law_260 <|
 x_sld h.2.1 dL_law_261 <|
 x_callV (b := 40) (As := [.int (xs (v3 + (1 : Int32)).toNatClampNeg), .int (xs (v3 + (2 : Int32)).toNatClampNeg)]) ok_X6_event ml_L_33 (okL ⟨Nat.le_of_ble_eq_true rfl, Nat.le_of_ble_eq_true rfl⟩) dL_law_262 rfl rfl (Nat.le_of_ble_eq_true rfl) rfl rfl rfl h3 <|
 (kI (fun τ4 r5 h6 => x_icmp_eq (tgt := 915) dL_law_265 (by decide) (fun c7 => (h6.1 c7)) (fun c7 => x_iconst dL_law_268 ic_0 <|
 (h6.2 c7).elim)))))
set_option maxRecDepth 100000 in
set_option maxHeartbeats 4000000 in
theorem B_law_270 {E : EV} {b n : Nat} {xs : Nat → Int32} {σ : Sg} {v3 : Int32} (h : vp_in (v3 + (1 : Int32)) n ∧ vp_in (v3 + (2 : Int32)) n ∧ vp_in (v3 + (3 : Int32)) n ∧ MetI E mi_X5_comes [.ref 0, .int (xs (v3 + (1 : Int32)).toNatClampNeg), .int (xs (v3 + (2 : Int32)).toNatClampNeg), .int (xs (v3 + (3 : Int32)).toNatClampNeg)] σ (fun τ1 r2 => MetI E mi_X6_comes [.ref 40, .int (xs (v3 + (1 : Int32)).toNatClampNeg), .int (xs (v3 + (2 : Int32)).toNatClampNeg), .int (xs (v3 + (3 : Int32)).toNatClampNeg)] τ1 (fun τ4 r5 => ((r2 = r5) → K_law_915 E b n xs τ4 v3) ∧ ((¬ r2 = r5) → False)))) : K_law_270 E b n xs σ v3 :=
 x_aload_n dL_law_270 rfl <|
 x_aload_n dL_law_271 rfl <|
 x_iload_n dL_law_272 rfl <|
 x_iconst dL_law_273 ic_1 <|
 x_iadd dL_law_274 <|
 x_sld h.1 dL_law_275 <|
 x_aload_n dL_law_276 rfl <|
 x_iload_n dL_law_277 rfl <|
 x_iconst dL_law_278 ic_2 <|
 x_iadd dL_law_279 <|
 x_sld h.2.1 dL_law_280 <|
 x_aload_n dL_law_281 rfl <|
 x_iload_n dL_law_282 rfl <|
 x_iconst dL_law_283 ic_3 <|
 x_iadd dL_law_284 <|
 x_sld h.2.2.1 dL_law_285 <|
 x_callV (b := 0) (As := [.int (xs (v3 + (1 : Int32)).toNatClampNeg), .int (xs (v3 + (2 : Int32)).toNatClampNeg), .int (xs (v3 + (3 : Int32)).toNatClampNeg)]) ok_X5_comes ml_L_34 (okL ⟨Nat.le_of_ble_eq_true rfl, Nat.le_of_ble_eq_true rfl⟩) dL_law_286 rfl rfl (Nat.le_of_ble_eq_true rfl) rfl rfl rfl h.2.2.2 <|
 (kI (fun τ1 r2 h3 => x_aload_n dL_law_289 rfl <|
 x_aload_n dL_law_290 rfl <|
 x_iload_n dL_law_291 rfl <|
 x_iconst dL_law_292 ic_1 <|
 x_iadd dL_law_293 <|
 x_sld h.1 dL_law_294 <|
 x_aload_n dL_law_295 rfl <|
 x_iload_n dL_law_296 rfl <|
 x_iconst dL_law_297 ic_2 <|
 x_iadd dL_law_298 <|
 x_sld h.2.1 dL_law_299 <|
 x_aload_n dL_law_300 rfl <|
 x_iload_n dL_law_301 rfl <|
 x_iconst dL_law_302 ic_3 <|
 x_iadd dL_law_303 <|
 x_sld h.2.2.1 dL_law_304 <|
 x_callV (b := 40) (As := [.int (xs (v3 + (1 : Int32)).toNatClampNeg), .int (xs (v3 + (2 : Int32)).toNatClampNeg), .int (xs (v3 + (3 : Int32)).toNatClampNeg)]) ok_X6_comes ml_L_38 (okL ⟨Nat.le_of_ble_eq_true rfl, Nat.le_of_ble_eq_true rfl⟩) dL_law_305 rfl rfl (Nat.le_of_ble_eq_true rfl) rfl rfl rfl h3 <|
 (kI (fun τ4 r5 h6 => x_icmp_eq (tgt := 915) dL_law_308 (by decide) (fun c7 => (h6.1 c7)) (fun c7 => x_iconst dL_law_311 ic_0 <|
 (h6.2 c7).elim)))))
set_option maxRecDepth 100000 in
set_option maxHeartbeats 4000000 in
theorem B_law_313 {E : EV} {b n : Nat} {xs : Nat → Int32} {σ : Sg} {v3 : Int32} (h : vp_in (v3 + (1 : Int32)) n ∧ MetI E mi_X5_days [.ref 0, .int (xs (v3 + (1 : Int32)).toNatClampNeg)] σ (fun τ1 r2 => MetI E mi_X6_days [.ref 40, .int (xs (v3 + (1 : Int32)).toNatClampNeg)] τ1 (fun τ4 r5 => ((r2 = r5) → K_law_915 E b n xs τ4 v3) ∧ ((¬ r2 = r5) → False)))) : K_law_313 E b n xs σ v3 :=
 x_aload_n dL_law_313 rfl <|
 x_aload_n dL_law_314 rfl <|
 x_iload_n dL_law_315 rfl <|
 x_iconst dL_law_316 ic_1 <|
 x_iadd dL_law_317 <|
 x_sld h.1 dL_law_318 <|
 x_callV (b := 0) (As := [.int (xs (v3 + (1 : Int32)).toNatClampNeg)]) ok_X5_days ml_L_39 (okL ⟨Nat.le_of_ble_eq_true rfl, Nat.le_of_ble_eq_true rfl⟩) dL_law_319 rfl rfl (Nat.le_of_ble_eq_true rfl) rfl rfl rfl h.2 <|
 (kI (fun τ1 r2 h3 => x_aload_n dL_law_322 rfl <|
 x_aload_n dL_law_323 rfl <|
 x_iload_n dL_law_324 rfl <|
 x_iconst dL_law_325 ic_1 <|
 x_iadd dL_law_326 <|
 x_sld h.1 dL_law_327 <|
 x_callV (b := 40) (As := [.int (xs (v3 + (1 : Int32)).toNatClampNeg)]) ok_X6_days ml_L_43 (okL ⟨Nat.le_of_ble_eq_true rfl, Nat.le_of_ble_eq_true rfl⟩) dL_law_328 rfl rfl (Nat.le_of_ble_eq_true rfl) rfl rfl rfl h3 <|
 (kI (fun τ4 r5 h6 => x_icmp_eq (tgt := 915) dL_law_331 (by decide) (fun c7 => (h6.1 c7)) (fun c7 => x_iconst dL_law_334 ic_0 <|
 (h6.2 c7).elim)))))
set_option maxRecDepth 100000 in
set_option maxHeartbeats 4000000 in
theorem B_law_336 {E : EV} {b n : Nat} {xs : Nat → Int32} {σ : Sg} {v3 : Int32} (h : MetI E mi_X5_undo [.ref 0] σ (fun τ1 r2 => MetI E mi_X6_undo [.ref 40] τ1 (fun τ4 r5 => ((r2 = r5) → K_law_915 E b n xs τ4 v3) ∧ ((¬ r2 = r5) → False)))) : K_law_336 E b n xs σ v3 :=
 x_aload_n dL_law_336 rfl <|
 x_callV (b := 0) (As := []) ok_X5_undo ml_L_44 (okL ⟨Nat.le_of_ble_eq_true rfl, Nat.le_of_ble_eq_true rfl⟩) dL_law_337 rfl rfl (Nat.le_of_ble_eq_true rfl) rfl rfl rfl h <|
 (kI (fun τ1 r2 h3 => x_aload_n dL_law_340 rfl <|
 x_callV (b := 40) (As := []) ok_X6_undo ml_L_47 (okL ⟨Nat.le_of_ble_eq_true rfl, Nat.le_of_ble_eq_true rfl⟩) dL_law_341 rfl rfl (Nat.le_of_ble_eq_true rfl) rfl rfl rfl h3 <|
 (kI (fun τ4 r5 h6 => x_icmp_eq (tgt := 915) dL_law_344 (by decide) (fun c7 => (h6.1 c7)) (fun c7 => x_iconst dL_law_347 ic_0 <|
 (h6.2 c7).elim)))))
set_option maxRecDepth 100000 in
set_option maxHeartbeats 4000000 in
theorem B_law_349 {E : EV} {b n : Nat} {xs : Nat → Int32} {σ : Sg} {v3 : Int32} (h : vp_in (v3 + (1 : Int32)) n ∧ vp_in (v3 + (2 : Int32)) n ∧ vp_in (v3 + (3 : Int32)) n ∧ MetI E mi_X5_origins [.ref 0, .int (xs (v3 + (1 : Int32)).toNatClampNeg), .int (xs (v3 + (2 : Int32)).toNatClampNeg), .int (xs (v3 + (3 : Int32)).toNatClampNeg)] σ (fun τ1 r2 => MetI E mi_X6_origins [.ref 40, .int (xs (v3 + (1 : Int32)).toNatClampNeg), .int (xs (v3 + (2 : Int32)).toNatClampNeg), .int (xs (v3 + (3 : Int32)).toNatClampNeg)] τ1 (fun τ4 r5 => ((r2 = r5) → K_law_915 E b n xs τ4 v3) ∧ ((¬ r2 = r5) → False)))) : K_law_349 E b n xs σ v3 :=
 x_aload_n dL_law_349 rfl <|
 x_aload_n dL_law_350 rfl <|
 x_iload_n dL_law_351 rfl <|
 x_iconst dL_law_352 ic_1 <|
 x_iadd dL_law_353 <|
 x_sld h.1 dL_law_354 <|
 x_aload_n dL_law_355 rfl <|
 x_iload_n dL_law_356 rfl <|
 x_iconst dL_law_357 ic_2 <|
 x_iadd dL_law_358 <|
 x_sld h.2.1 dL_law_359 <|
 x_aload_n dL_law_360 rfl <|
 x_iload_n dL_law_361 rfl <|
 x_iconst dL_law_362 ic_3 <|
 x_iadd dL_law_363 <|
 x_sld h.2.2.1 dL_law_364 <|
 x_callV (b := 0) (As := [.int (xs (v3 + (1 : Int32)).toNatClampNeg), .int (xs (v3 + (2 : Int32)).toNatClampNeg), .int (xs (v3 + (3 : Int32)).toNatClampNeg)]) ok_X5_origins ml_L_48 (okL ⟨Nat.le_of_ble_eq_true rfl, Nat.le_of_ble_eq_true rfl⟩) dL_law_365 rfl rfl (Nat.le_of_ble_eq_true rfl) rfl rfl rfl h.2.2.2 <|
 (kI (fun τ1 r2 h3 => x_aload_n dL_law_368 rfl <|
 x_aload_n dL_law_369 rfl <|
 x_iload_n dL_law_370 rfl <|
 x_iconst dL_law_371 ic_1 <|
 x_iadd dL_law_372 <|
 x_sld h.1 dL_law_373 <|
 x_aload_n dL_law_374 rfl <|
 x_iload_n dL_law_375 rfl <|
 x_iconst dL_law_376 ic_2 <|
 x_iadd dL_law_377 <|
 x_sld h.2.1 dL_law_378 <|
 x_aload_n dL_law_379 rfl <|
 x_iload_n dL_law_380 rfl <|
 x_iconst dL_law_381 ic_3 <|
 x_iadd dL_law_382 <|
 x_sld h.2.2.1 dL_law_383 <|
 x_callV (b := 40) (As := [.int (xs (v3 + (1 : Int32)).toNatClampNeg), .int (xs (v3 + (2 : Int32)).toNatClampNeg), .int (xs (v3 + (3 : Int32)).toNatClampNeg)]) ok_X6_origins ml_L_51 (okL ⟨Nat.le_of_ble_eq_true rfl, Nat.le_of_ble_eq_true rfl⟩) dL_law_384 rfl rfl (Nat.le_of_ble_eq_true rfl) rfl rfl rfl h3 <|
 (kI (fun τ4 r5 h6 => x_icmp_eq (tgt := 915) dL_law_387 (by decide) (fun c7 => (h6.1 c7)) (fun c7 => x_iconst dL_law_390 ic_0 <|
 (h6.2 c7).elim)))))
set_option maxRecDepth 100000 in
set_option maxHeartbeats 4000000 in
theorem B_law_392 {E : EV} {b n : Nat} {xs : Nat → Int32} {σ : Sg} {v3 : Int32} (h : vp_in (v3 + (1 : Int32)) n ∧ vp_in (v3 + (2 : Int32)) n ∧ vp_in (v3 + (3 : Int32)) n ∧ MetI E mi_X5_voice [.ref 0, .int (xs (v3 + (1 : Int32)).toNatClampNeg), .int (xs (v3 + (2 : Int32)).toNatClampNeg), .int (xs (v3 + (3 : Int32)).toNatClampNeg)] σ (fun τ1 r2 => MetI E mi_X6_voice [.ref 40, .int (xs (v3 + (1 : Int32)).toNatClampNeg), .int (xs (v3 + (2 : Int32)).toNatClampNeg), .int (xs (v3 + (3 : Int32)).toNatClampNeg)] τ1 (fun τ4 r5 => ((r2 = r5) → K_law_915 E b n xs τ4 v3) ∧ ((¬ r2 = r5) → False)))) : K_law_392 E b n xs σ v3 :=
 x_aload_n dL_law_392 rfl <|
 x_aload_n dL_law_393 rfl <|
 x_iload_n dL_law_394 rfl <|
 x_iconst dL_law_395 ic_1 <|
 x_iadd dL_law_396 <|
 x_sld h.1 dL_law_397 <|
 x_aload_n dL_law_398 rfl <|
 x_iload_n dL_law_399 rfl <|
 x_iconst dL_law_400 ic_2 <|
 x_iadd dL_law_401 <|
 x_sld h.2.1 dL_law_402 <|
 x_aload_n dL_law_403 rfl <|
 x_iload_n dL_law_404 rfl <|
 x_iconst dL_law_405 ic_3 <|
 x_iadd dL_law_406 <|
 x_sld h.2.2.1 dL_law_407 <|
 x_callV (b := 0) (As := [.int (xs (v3 + (1 : Int32)).toNatClampNeg), .int (xs (v3 + (2 : Int32)).toNatClampNeg), .int (xs (v3 + (3 : Int32)).toNatClampNeg)]) ok_X5_voice ml_L_52 (okL ⟨Nat.le_of_ble_eq_true rfl, Nat.le_of_ble_eq_true rfl⟩) dL_law_408 rfl rfl (Nat.le_of_ble_eq_true rfl) rfl rfl rfl h.2.2.2 <|
 (kI (fun τ1 r2 h3 => x_aload_n dL_law_411 rfl <|
 x_aload_n dL_law_412 rfl <|
 x_iload_n dL_law_413 rfl <|
 x_iconst dL_law_414 ic_1 <|
 x_iadd dL_law_415 <|
 x_sld h.1 dL_law_416 <|
 x_aload_n dL_law_417 rfl <|
 x_iload_n dL_law_418 rfl <|
 x_iconst dL_law_419 ic_2 <|
 x_iadd dL_law_420 <|
 x_sld h.2.1 dL_law_421 <|
 x_aload_n dL_law_422 rfl <|
 x_iload_n dL_law_423 rfl <|
 x_iconst dL_law_424 ic_3 <|
 x_iadd dL_law_425 <|
 x_sld h.2.2.1 dL_law_426 <|
 x_callV (b := 40) (As := [.int (xs (v3 + (1 : Int32)).toNatClampNeg), .int (xs (v3 + (2 : Int32)).toNatClampNeg), .int (xs (v3 + (3 : Int32)).toNatClampNeg)]) ok_X6_voice ml_L_55 (okL ⟨Nat.le_of_ble_eq_true rfl, Nat.le_of_ble_eq_true rfl⟩) dL_law_427 rfl rfl (Nat.le_of_ble_eq_true rfl) rfl rfl rfl h3 <|
 (kI (fun τ4 r5 h6 => x_icmp_eq (tgt := 915) dL_law_430 (by decide) (fun c7 => (h6.1 c7)) (fun c7 => x_iconst dL_law_433 ic_0 <|
 (h6.2 c7).elim)))))
set_option maxRecDepth 100000 in
set_option maxHeartbeats 4000000 in
theorem B_law_435 {E : EV} {b n : Nat} {xs : Nat → Int32} {σ : Sg} {v3 : Int32} (h : vp_in (v3 + (1 : Int32)) n ∧ vp_in (v3 + (2 : Int32)) n ∧ vp_in (v3 + (3 : Int32)) n ∧ MetI E mi_X5_law [.ref 0, .int (xs (v3 + (1 : Int32)).toNatClampNeg), .int (xs (v3 + (2 : Int32)).toNatClampNeg), .int (xs (v3 + (3 : Int32)).toNatClampNeg)] σ (fun τ1 r2 => MetI E mi_X6_law [.ref 40, .int (xs (v3 + (1 : Int32)).toNatClampNeg), .int (xs (v3 + (2 : Int32)).toNatClampNeg), .int (xs (v3 + (3 : Int32)).toNatClampNeg)] τ1 (fun τ4 r5 => ((r2 = r5) → K_law_915 E b n xs τ4 v3) ∧ ((¬ r2 = r5) → False)))) : K_law_435 E b n xs σ v3 :=
 x_aload_n dL_law_435 rfl <|
 x_aload_n dL_law_436 rfl <|
 x_iload_n dL_law_437 rfl <|
 x_iconst dL_law_438 ic_1 <|
 x_iadd dL_law_439 <|
 x_sld h.1 dL_law_440 <|
 x_aload_n dL_law_441 rfl <|
 x_iload_n dL_law_442 rfl <|
 x_iconst dL_law_443 ic_2 <|
 x_iadd dL_law_444 <|
 x_sld h.2.1 dL_law_445 <|
 x_aload_n dL_law_446 rfl <|
 x_iload_n dL_law_447 rfl <|
 x_iconst dL_law_448 ic_3 <|
 x_iadd dL_law_449 <|
 x_sld h.2.2.1 dL_law_450 <|
 x_callV (b := 0) (As := [.int (xs (v3 + (1 : Int32)).toNatClampNeg), .int (xs (v3 + (2 : Int32)).toNatClampNeg), .int (xs (v3 + (3 : Int32)).toNatClampNeg)]) ok_X5_law ml_L_56 (okL ⟨Nat.le_of_ble_eq_true rfl, Nat.le_of_ble_eq_true rfl⟩) dL_law_451 rfl rfl (Nat.le_of_ble_eq_true rfl) rfl rfl rfl h.2.2.2 <|
 (kI (fun τ1 r2 h3 => x_aload_n dL_law_454 rfl <|
 x_aload_n dL_law_455 rfl <|
 x_iload_n dL_law_456 rfl <|
 x_iconst dL_law_457 ic_1 <|
 x_iadd dL_law_458 <|
 x_sld h.1 dL_law_459 <|
 x_aload_n dL_law_460 rfl <|
 x_iload_n dL_law_461 rfl <|
 x_iconst dL_law_462 ic_2 <|
 x_iadd dL_law_463 <|
 x_sld h.2.1 dL_law_464 <|
 x_aload_n dL_law_465 rfl <|
 x_iload_n dL_law_466 rfl <|
 x_iconst dL_law_467 ic_3 <|
 x_iadd dL_law_468 <|
 x_sld h.2.2.1 dL_law_469 <|
 x_callV (b := 40) (As := [.int (xs (v3 + (1 : Int32)).toNatClampNeg), .int (xs (v3 + (2 : Int32)).toNatClampNeg), .int (xs (v3 + (3 : Int32)).toNatClampNeg)]) ok_X6_law ml_L_59 (okL ⟨Nat.le_of_ble_eq_true rfl, Nat.le_of_ble_eq_true rfl⟩) dL_law_470 rfl rfl (Nat.le_of_ble_eq_true rfl) rfl rfl rfl h3 <|
 (kI (fun τ4 r5 h6 => x_icmp_eq (tgt := 915) dL_law_473 (by decide) (fun c7 => (h6.1 c7)) (fun c7 => x_iconst dL_law_476 ic_0 <|
 (h6.2 c7).elim)))))
set_option maxRecDepth 100000 in
set_option maxHeartbeats 4000000 in
theorem B_law_478 {E : EV} {b n : Nat} {xs : Nat → Int32} {σ : Sg} {v3 : Int32} (h : vp_in (v3 + (1 : Int32)) n ∧ MetI E mi_X5_place [.ref 0, .int (xs (v3 + (1 : Int32)).toNatClampNeg)] σ (fun τ1 r2 => MetI E mi_X6_place [.ref 40, .int (xs (v3 + (1 : Int32)).toNatClampNeg)] τ1 (fun τ4 r5 => ((r2 = r5) → K_law_915 E b n xs τ4 v3) ∧ ((¬ r2 = r5) → False)))) : K_law_478 E b n xs σ v3 :=
 x_aload_n dL_law_478 rfl <|
 x_aload_n dL_law_479 rfl <|
 x_iload_n dL_law_480 rfl <|
 x_iconst dL_law_481 ic_1 <|
 x_iadd dL_law_482 <|
 x_sld h.1 dL_law_483 <|
 x_callV (b := 0) (As := [.int (xs (v3 + (1 : Int32)).toNatClampNeg)]) ok_X5_place ml_L_60 (okL ⟨Nat.le_of_ble_eq_true rfl, Nat.le_of_ble_eq_true rfl⟩) dL_law_484 rfl rfl (Nat.le_of_ble_eq_true rfl) rfl rfl rfl h.2 <|
 (kI (fun τ1 r2 h3 => x_aload_n dL_law_487 rfl <|
 x_aload_n dL_law_488 rfl <|
 x_iload_n dL_law_489 rfl <|
 x_iconst dL_law_490 ic_1 <|
 x_iadd dL_law_491 <|
 x_sld h.1 dL_law_492 <|
 x_callV (b := 40) (As := [.int (xs (v3 + (1 : Int32)).toNatClampNeg)]) ok_X6_place ml_L_63 (okL ⟨Nat.le_of_ble_eq_true rfl, Nat.le_of_ble_eq_true rfl⟩) dL_law_493 rfl rfl (Nat.le_of_ble_eq_true rfl) rfl rfl rfl h3 <|
 (kI (fun τ4 r5 h6 => x_icmp_eq (tgt := 915) dL_law_496 (by decide) (fun c7 => (h6.1 c7)) (fun c7 => x_iconst dL_law_499 ic_0 <|
 (h6.2 c7).elim)))))
set_option maxRecDepth 100000 in
set_option maxHeartbeats 4000000 in
theorem B_law_501 {E : EV} {b n : Nat} {xs : Nat → Int32} {σ : Sg} {v3 : Int32} (h : vp_in (v3 + (1 : Int32)) n ∧ MetI E mi_X5_stands [.ref 0, .int (xs (v3 + (1 : Int32)).toNatClampNeg)] σ (fun τ1 r2 => MetI E mi_X6_stands [.ref 40, .int (xs (v3 + (1 : Int32)).toNatClampNeg)] τ1 (fun τ4 r5 => ((r2 = r5) → K_law_915 E b n xs τ4 v3) ∧ ((¬ r2 = r5) → False)))) : K_law_501 E b n xs σ v3 :=
 x_aload_n dL_law_501 rfl <|
 x_aload_n dL_law_502 rfl <|
 x_iload_n dL_law_503 rfl <|
 x_iconst dL_law_504 ic_1 <|
 x_iadd dL_law_505 <|
 x_sld h.1 dL_law_506 <|
 x_callV (b := 0) (As := [.int (xs (v3 + (1 : Int32)).toNatClampNeg)]) ok_X5_stands ml_L_64 (okL ⟨Nat.le_of_ble_eq_true rfl, Nat.le_of_ble_eq_true rfl⟩) dL_law_507 rfl rfl (Nat.le_of_ble_eq_true rfl) rfl rfl rfl h.2 <|
 (kI (fun τ1 r2 h3 => x_aload_n dL_law_510 rfl <|
 x_aload_n dL_law_511 rfl <|
 x_iload_n dL_law_512 rfl <|
 x_iconst dL_law_513 ic_1 <|
 x_iadd dL_law_514 <|
 x_sld h.1 dL_law_515 <|
 x_callV (b := 40) (As := [.int (xs (v3 + (1 : Int32)).toNatClampNeg)]) ok_X6_stands ml_L_67 (okL ⟨Nat.le_of_ble_eq_true rfl, Nat.le_of_ble_eq_true rfl⟩) dL_law_516 rfl rfl (Nat.le_of_ble_eq_true rfl) rfl rfl rfl h3 <|
 (kI (fun τ4 r5 h6 => x_icmp_eq (tgt := 915) dL_law_519 (by decide) (fun c7 => (h6.1 c7)) (fun c7 => x_iconst dL_law_522 ic_0 <|
 (h6.2 c7).elim)))))
set_option maxRecDepth 100000 in
set_option maxHeartbeats 4000000 in
theorem B_law_524 {E : EV} {b n : Nat} {xs : Nat → Int32} {σ : Sg} {v3 : Int32} (h : vp_in (v3 + (1 : Int32)) n ∧ MetI E mi_X5_falls [.ref 0, .int (xs (v3 + (1 : Int32)).toNatClampNeg)] σ (fun τ1 r2 => MetI E mi_X6_falls [.ref 40, .int (xs (v3 + (1 : Int32)).toNatClampNeg)] τ1 (fun τ4 r5 => ((r2 = r5) → K_law_915 E b n xs τ4 v3) ∧ ((¬ r2 = r5) → False)))) : K_law_524 E b n xs σ v3 :=
 x_aload_n dL_law_524 rfl <|
 x_aload_n dL_law_525 rfl <|
 x_iload_n dL_law_526 rfl <|
 x_iconst dL_law_527 ic_1 <|
 x_iadd dL_law_528 <|
 x_sld h.1 dL_law_529 <|
 x_callV (b := 0) (As := [.int (xs (v3 + (1 : Int32)).toNatClampNeg)]) ok_X5_falls ml_L_68 (okL ⟨Nat.le_of_ble_eq_true rfl, Nat.le_of_ble_eq_true rfl⟩) dL_law_530 rfl rfl (Nat.le_of_ble_eq_true rfl) rfl rfl rfl h.2 <|
 (kI (fun τ1 r2 h3 => x_aload_n dL_law_533 rfl <|
 x_aload_n dL_law_534 rfl <|
 x_iload_n dL_law_535 rfl <|
 x_iconst dL_law_536 ic_1 <|
 x_iadd dL_law_537 <|
 x_sld h.1 dL_law_538 <|
 x_callV (b := 40) (As := [.int (xs (v3 + (1 : Int32)).toNatClampNeg)]) ok_X6_falls ml_L_71 (okL ⟨Nat.le_of_ble_eq_true rfl, Nat.le_of_ble_eq_true rfl⟩) dL_law_539 rfl rfl (Nat.le_of_ble_eq_true rfl) rfl rfl rfl h3 <|
 (kI (fun τ4 r5 h6 => x_icmp_eq (tgt := 915) dL_law_542 (by decide) (fun c7 => (h6.1 c7)) (fun c7 => x_iconst dL_law_545 ic_0 <|
 (h6.2 c7).elim)))))
set_option maxRecDepth 100000 in
set_option maxHeartbeats 4000000 in
theorem B_law_547 {E : EV} {b n : Nat} {xs : Nat → Int32} {σ : Sg} {v3 : Int32} (h : vp_in (v3 + (1 : Int32)) n ∧ MetI E mi_X5_alone [.ref 0, .int (xs (v3 + (1 : Int32)).toNatClampNeg)] σ (fun τ1 r2 => MetI E mi_X6_alone [.ref 40, .int (xs (v3 + (1 : Int32)).toNatClampNeg)] τ1 (fun τ4 r5 => ((r2 = r5) → K_law_915 E b n xs τ4 v3) ∧ ((¬ r2 = r5) → False)))) : K_law_547 E b n xs σ v3 :=
 x_aload_n dL_law_547 rfl <|
 x_aload_n dL_law_548 rfl <|
 x_iload_n dL_law_549 rfl <|
 x_iconst dL_law_550 ic_1 <|
 x_iadd dL_law_551 <|
 x_sld h.1 dL_law_552 <|
 x_callV (b := 0) (As := [.int (xs (v3 + (1 : Int32)).toNatClampNeg)]) ok_X5_alone ml_L_72 (okL ⟨Nat.le_of_ble_eq_true rfl, Nat.le_of_ble_eq_true rfl⟩) dL_law_553 rfl rfl (Nat.le_of_ble_eq_true rfl) rfl rfl rfl h.2 <|
 (kI (fun τ1 r2 h3 => x_aload_n dL_law_556 rfl <|
 x_aload_n dL_law_557 rfl <|
 x_iload_n dL_law_558 rfl <|
 x_iconst dL_law_559 ic_1 <|
 x_iadd dL_law_560 <|
 x_sld h.1 dL_law_561 <|
 x_callV (b := 40) (As := [.int (xs (v3 + (1 : Int32)).toNatClampNeg)]) ok_X6_alone ml_L_75 (okL ⟨Nat.le_of_ble_eq_true rfl, Nat.le_of_ble_eq_true rfl⟩) dL_law_562 rfl rfl (Nat.le_of_ble_eq_true rfl) rfl rfl rfl h3 <|
 (kI (fun τ4 r5 h6 => x_icmp_eq (tgt := 915) dL_law_565 (by decide) (fun c7 => (h6.1 c7)) (fun c7 => x_iconst dL_law_568 ic_0 <|
 (h6.2 c7).elim)))))
set_option maxRecDepth 100000 in
set_option maxHeartbeats 4000000 in
theorem B_law_570 {E : EV} {b n : Nat} {xs : Nat → Int32} {σ : Sg} {v3 : Int32} (h : MetI E mi_X5_empty [.ref 0] σ (fun τ1 r2 => MetI E mi_X6_empty [.ref 40] τ1 (fun τ4 r5 => ((r2 = r5) → K_law_915 E b n xs τ4 v3) ∧ ((¬ r2 = r5) → False)))) : K_law_570 E b n xs σ v3 :=
 x_aload_n dL_law_570 rfl <|
 x_callV (b := 0) (As := []) ok_X5_empty ml_L_76 (okL ⟨Nat.le_of_ble_eq_true rfl, Nat.le_of_ble_eq_true rfl⟩) dL_law_571 rfl rfl (Nat.le_of_ble_eq_true rfl) rfl rfl rfl h <|
 (kI (fun τ1 r2 h3 => x_aload_n dL_law_574 rfl <|
 x_callV (b := 40) (As := []) ok_X6_empty ml_L_79 (okL ⟨Nat.le_of_ble_eq_true rfl, Nat.le_of_ble_eq_true rfl⟩) dL_law_575 rfl rfl (Nat.le_of_ble_eq_true rfl) rfl rfl rfl h3 <|
 (kI (fun τ4 r5 h6 => x_icmp_eq (tgt := 915) dL_law_578 (by decide) (fun c7 => (h6.1 c7)) (fun c7 => x_iconst dL_law_581 ic_0 <|
 (h6.2 c7).elim)))))
set_option maxRecDepth 100000 in
set_option maxHeartbeats 4000000 in
theorem B_law_583 {E : EV} {b n : Nat} {xs : Nat → Int32} {σ : Sg} {v3 : Int32} (h : vp_in (v3 + (1 : Int32)) n ∧ vp_in (v3 + (2 : Int32)) n ∧ MetI E mi_X5_hints [.ref 0, .int (xs (v3 + (1 : Int32)).toNatClampNeg), .int (xs (v3 + (2 : Int32)).toNatClampNeg)] σ (fun τ1 r2 => MetI E mi_X6_hints [.ref 40, .int (xs (v3 + (1 : Int32)).toNatClampNeg), .int (xs (v3 + (2 : Int32)).toNatClampNeg)] τ1 (fun τ4 r5 => ((r2 = r5) → K_law_915 E b n xs τ4 v3) ∧ ((¬ r2 = r5) → False)))) : K_law_583 E b n xs σ v3 :=
 x_aload_n dL_law_583 rfl <|
 x_aload_n dL_law_584 rfl <|
 x_iload_n dL_law_585 rfl <|
 x_iconst dL_law_586 ic_1 <|
 x_iadd dL_law_587 <|
 x_sld h.1 dL_law_588 <|
 x_aload_n dL_law_589 rfl <|
 x_iload_n dL_law_590 rfl <|
 x_iconst dL_law_591 ic_2 <|
 x_iadd dL_law_592 <|
 x_sld h.2.1 dL_law_593 <|
 x_callV (b := 0) (As := [.int (xs (v3 + (1 : Int32)).toNatClampNeg), .int (xs (v3 + (2 : Int32)).toNatClampNeg)]) ok_X5_hints ml_L_80 (okL ⟨Nat.le_of_ble_eq_true rfl, Nat.le_of_ble_eq_true rfl⟩) dL_law_594 rfl rfl (Nat.le_of_ble_eq_true rfl) rfl rfl rfl h.2.2 <|
 (kI (fun τ1 r2 h3 => x_aload_n dL_law_597 rfl <|
 x_aload_n dL_law_598 rfl <|
 x_iload_n dL_law_599 rfl <|
 x_iconst dL_law_600 ic_1 <|
 x_iadd dL_law_601 <|
 x_sld h.1 dL_law_602 <|
 x_aload_n dL_law_603 rfl <|
 x_iload_n dL_law_604 rfl <|
 x_iconst dL_law_605 ic_2 <|
 x_iadd dL_law_606 <|
 x_sld h.2.1 dL_law_607 <|
 x_callV (b := 40) (As := [.int (xs (v3 + (1 : Int32)).toNatClampNeg), .int (xs (v3 + (2 : Int32)).toNatClampNeg)]) ok_X6_hints ml_L_83 (okL ⟨Nat.le_of_ble_eq_true rfl, Nat.le_of_ble_eq_true rfl⟩) dL_law_608 rfl rfl (Nat.le_of_ble_eq_true rfl) rfl rfl rfl h3 <|
 (kI (fun τ4 r5 h6 => x_icmp_eq (tgt := 915) dL_law_611 (by decide) (fun c7 => (h6.1 c7)) (fun c7 => x_iconst dL_law_614 ic_0 <|
 (h6.2 c7).elim)))))
set_option maxRecDepth 100000 in
set_option maxHeartbeats 4000000 in
theorem B_law_616 {E : EV} {b n : Nat} {xs : Nat → Int32} {σ : Sg} {v3 : Int32} (h : vp_in (v3 + (1 : Int32)) n ∧ vp_in (v3 + (2 : Int32)) n ∧ MetI E mi_X5_hinder [.ref 0, .int (xs (v3 + (1 : Int32)).toNatClampNeg), .int (xs (v3 + (2 : Int32)).toNatClampNeg)] σ (fun τ1 r2 => MetI E mi_X6_hinder [.ref 40, .int (xs (v3 + (1 : Int32)).toNatClampNeg), .int (xs (v3 + (2 : Int32)).toNatClampNeg)] τ1 (fun τ4 r5 => ((r2 = r5) → K_law_915 E b n xs τ4 v3) ∧ ((¬ r2 = r5) → False)))) : K_law_616 E b n xs σ v3 :=
 x_aload_n dL_law_616 rfl <|
 x_aload_n dL_law_617 rfl <|
 x_iload_n dL_law_618 rfl <|
 x_iconst dL_law_619 ic_1 <|
 x_iadd dL_law_620 <|
 x_sld h.1 dL_law_621 <|
 x_aload_n dL_law_622 rfl <|
 x_iload_n dL_law_623 rfl <|
 x_iconst dL_law_624 ic_2 <|
 x_iadd dL_law_625 <|
 x_sld h.2.1 dL_law_626 <|
 x_callV (b := 0) (As := [.int (xs (v3 + (1 : Int32)).toNatClampNeg), .int (xs (v3 + (2 : Int32)).toNatClampNeg)]) ok_X5_hinder ml_L_84 (okL ⟨Nat.le_of_ble_eq_true rfl, Nat.le_of_ble_eq_true rfl⟩) dL_law_627 rfl rfl (Nat.le_of_ble_eq_true rfl) rfl rfl rfl h.2.2 <|
 (kI (fun τ1 r2 h3 => x_aload_n dL_law_630 rfl <|
 x_aload_n dL_law_631 rfl <|
 x_iload_n dL_law_632 rfl <|
 x_iconst dL_law_633 ic_1 <|
 x_iadd dL_law_634 <|
 x_sld h.1 dL_law_635 <|
 x_aload_n dL_law_636 rfl <|
 x_iload_n dL_law_637 rfl <|
 x_iconst dL_law_638 ic_2 <|
 x_iadd dL_law_639 <|
 x_sld h.2.1 dL_law_640 <|
 x_callV (b := 40) (As := [.int (xs (v3 + (1 : Int32)).toNatClampNeg), .int (xs (v3 + (2 : Int32)).toNatClampNeg)]) ok_X6_hinder ml_L_87 (okL ⟨Nat.le_of_ble_eq_true rfl, Nat.le_of_ble_eq_true rfl⟩) dL_law_641 rfl rfl (Nat.le_of_ble_eq_true rfl) rfl rfl rfl h3 <|
 (kI (fun τ4 r5 h6 => x_icmp_eq (tgt := 915) dL_law_644 (by decide) (fun c7 => (h6.1 c7)) (fun c7 => x_iconst dL_law_647 ic_0 <|
 (h6.2 c7).elim)))))
set_option maxRecDepth 100000 in
set_option maxHeartbeats 4000000 in
theorem B_law_649 {E : EV} {b n : Nat} {xs : Nat → Int32} {σ : Sg} {v3 : Int32} (h : vp_in (v3 + (1 : Int32)) n ∧ vp_in (v3 + (2 : Int32)) n ∧ vp_in (v3 + (3 : Int32)) n ∧ MetI E mi_X5_turns [.ref 0, .int (xs (v3 + (1 : Int32)).toNatClampNeg), .int (xs (v3 + (2 : Int32)).toNatClampNeg), .int (xs (v3 + (3 : Int32)).toNatClampNeg)] σ (fun τ1 r2 => MetI E mi_X6_turns [.ref 40, .int (xs (v3 + (1 : Int32)).toNatClampNeg), .int (xs (v3 + (2 : Int32)).toNatClampNeg), .int (xs (v3 + (3 : Int32)).toNatClampNeg)] τ1 (fun τ4 r5 => ((r2 = r5) → K_law_915 E b n xs τ4 v3) ∧ ((¬ r2 = r5) → False)))) : K_law_649 E b n xs σ v3 :=
 x_aload_n dL_law_649 rfl <|
 x_aload_n dL_law_650 rfl <|
 x_iload_n dL_law_651 rfl <|
 x_iconst dL_law_652 ic_1 <|
 x_iadd dL_law_653 <|
 x_sld h.1 dL_law_654 <|
 x_aload_n dL_law_655 rfl <|
 x_iload_n dL_law_656 rfl <|
 x_iconst dL_law_657 ic_2 <|
 x_iadd dL_law_658 <|
 x_sld h.2.1 dL_law_659 <|
 x_aload_n dL_law_660 rfl <|
 x_iload_n dL_law_661 rfl <|
 x_iconst dL_law_662 ic_3 <|
 x_iadd dL_law_663 <|
 x_sld h.2.2.1 dL_law_664 <|
 x_callV (b := 0) (As := [.int (xs (v3 + (1 : Int32)).toNatClampNeg), .int (xs (v3 + (2 : Int32)).toNatClampNeg), .int (xs (v3 + (3 : Int32)).toNatClampNeg)]) ok_X5_turns ml_L_88 (okL ⟨Nat.le_of_ble_eq_true rfl, Nat.le_of_ble_eq_true rfl⟩) dL_law_665 rfl rfl (Nat.le_of_ble_eq_true rfl) rfl rfl rfl h.2.2.2 <|
 (kI (fun τ1 r2 h3 => x_aload_n dL_law_668 rfl <|
 x_aload_n dL_law_669 rfl <|
 x_iload_n dL_law_670 rfl <|
 x_iconst dL_law_671 ic_1 <|
 x_iadd dL_law_672 <|
 x_sld h.1 dL_law_673 <|
 x_aload_n dL_law_674 rfl <|
 x_iload_n dL_law_675 rfl <|
 x_iconst dL_law_676 ic_2 <|
 x_iadd dL_law_677 <|
 x_sld h.2.1 dL_law_678 <|
 x_aload_n dL_law_679 rfl <|
 x_iload_n dL_law_680 rfl <|
 x_iconst dL_law_681 ic_3 <|
 x_iadd dL_law_682 <|
 x_sld h.2.2.1 dL_law_683 <|
 x_callV (b := 40) (As := [.int (xs (v3 + (1 : Int32)).toNatClampNeg), .int (xs (v3 + (2 : Int32)).toNatClampNeg), .int (xs (v3 + (3 : Int32)).toNatClampNeg)]) ok_X6_turns ml_L_91 (okL ⟨Nat.le_of_ble_eq_true rfl, Nat.le_of_ble_eq_true rfl⟩) dL_law_684 rfl rfl (Nat.le_of_ble_eq_true rfl) rfl rfl rfl h3 <|
 (kI (fun τ4 r5 h6 => x_icmp_eq (tgt := 915) dL_law_687 (by decide) (fun c7 => (h6.1 c7)) (fun c7 => x_iconst dL_law_690 ic_0 <|
 (h6.2 c7).elim)))))
set_option maxRecDepth 100000 in
set_option maxHeartbeats 4000000 in
theorem B_law_692 {E : EV} {b n : Nat} {xs : Nat → Int32} {σ : Sg} {v3 : Int32} (h : vp_in (v3 + (1 : Int32)) n ∧ vp_in (v3 + (2 : Int32)) n ∧ MetI E mi_X5_keepAt [.ref 0, .int (xs (v3 + (1 : Int32)).toNatClampNeg), .int (xs (v3 + (2 : Int32)).toNatClampNeg)] σ (fun τ1 r2 => MetI E mi_X6_keepAt [.ref 40, .int (xs (v3 + (1 : Int32)).toNatClampNeg), .int (xs (v3 + (2 : Int32)).toNatClampNeg)] τ1 (fun τ4 r5 => ((r2 = r5) → K_law_915 E b n xs τ4 v3) ∧ ((¬ r2 = r5) → False)))) : K_law_692 E b n xs σ v3 :=
 x_aload_n dL_law_692 rfl <|
 x_aload_n dL_law_693 rfl <|
 x_iload_n dL_law_694 rfl <|
 x_iconst dL_law_695 ic_1 <|
 x_iadd dL_law_696 <|
 x_sld h.1 dL_law_697 <|
 x_aload_n dL_law_698 rfl <|
 x_iload_n dL_law_699 rfl <|
 x_iconst dL_law_700 ic_2 <|
 x_iadd dL_law_701 <|
 x_sld h.2.1 dL_law_702 <|
 x_callV (b := 0) (As := [.int (xs (v3 + (1 : Int32)).toNatClampNeg), .int (xs (v3 + (2 : Int32)).toNatClampNeg)]) ok_X5_keepAt ml_L_92 (okL ⟨Nat.le_of_ble_eq_true rfl, Nat.le_of_ble_eq_true rfl⟩) dL_law_703 rfl rfl (Nat.le_of_ble_eq_true rfl) rfl rfl rfl h.2.2 <|
 (kI (fun τ1 r2 h3 => x_aload_n dL_law_706 rfl <|
 x_aload_n dL_law_707 rfl <|
 x_iload_n dL_law_708 rfl <|
 x_iconst dL_law_709 ic_1 <|
 x_iadd dL_law_710 <|
 x_sld h.1 dL_law_711 <|
 x_aload_n dL_law_712 rfl <|
 x_iload_n dL_law_713 rfl <|
 x_iconst dL_law_714 ic_2 <|
 x_iadd dL_law_715 <|
 x_sld h.2.1 dL_law_716 <|
 x_callV (b := 40) (As := [.int (xs (v3 + (1 : Int32)).toNatClampNeg), .int (xs (v3 + (2 : Int32)).toNatClampNeg)]) ok_X6_keepAt ml_L_95 (okL ⟨Nat.le_of_ble_eq_true rfl, Nat.le_of_ble_eq_true rfl⟩) dL_law_717 rfl rfl (Nat.le_of_ble_eq_true rfl) rfl rfl rfl h3 <|
 (kI (fun τ4 r5 h6 => x_icmp_eq (tgt := 915) dL_law_720 (by decide) (fun c7 => (h6.1 c7)) (fun c7 => x_iconst dL_law_723 ic_0 <|
 (h6.2 c7).elim)))))
set_option maxRecDepth 100000 in
set_option maxHeartbeats 4000000 in
theorem B_law_725 {E : EV} {b n : Nat} {xs : Nat → Int32} {σ : Sg} {v3 : Int32} (h : vp_in (v3 + (1 : Int32)) n ∧ vp_in (v3 + (2 : Int32)) n ∧ vp_in (v3 + (3 : Int32)) n ∧ vp_in (v3 + (4 : Int32)) n ∧ vp_in (v3 + (5 : Int32)) n ∧ MetL E mi_X5_chance [.ref 0, .int (xs (v3 + (1 : Int32)).toNatClampNeg), .int (xs (v3 + (2 : Int32)).toNatClampNeg), .int (xs (v3 + (3 : Int32)).toNatClampNeg), .int (xs (v3 + (4 : Int32)).toNatClampNeg), .int (xs (v3 + (5 : Int32)).toNatClampNeg)] σ (fun τ1 r2 => MetL E mi_X6_chance [.ref 40, .int (xs (v3 + (1 : Int32)).toNatClampNeg), .int (xs (v3 + (2 : Int32)).toNatClampNeg), .int (xs (v3 + (3 : Int32)).toNatClampNeg), .int (xs (v3 + (4 : Int32)).toNatClampNeg), .int (xs (v3 + (5 : Int32)).toNatClampNeg)] τ1 (fun τ4 r5 => (((lg_cmp r2 r5) = 0) → K_law_915 E b n xs τ4 v3) ∧ ((¬ (lg_cmp r2 r5) = 0) → False)))) : K_law_725 E b n xs σ v3 :=
 x_aload_n dL_law_725 rfl <|
 x_aload_n dL_law_726 rfl <|
 x_iload_n dL_law_727 rfl <|
 x_iconst dL_law_728 ic_1 <|
 x_iadd dL_law_729 <|
 x_sld h.1 dL_law_730 <|
 x_aload_n dL_law_731 rfl <|
 x_iload_n dL_law_732 rfl <|
 x_iconst dL_law_733 ic_2 <|
 x_iadd dL_law_734 <|
 x_sld h.2.1 dL_law_735 <|
 x_aload_n dL_law_736 rfl <|
 x_iload_n dL_law_737 rfl <|
 x_iconst dL_law_738 ic_3 <|
 x_iadd dL_law_739 <|
 x_sld h.2.2.1 dL_law_740 <|
 x_aload_n dL_law_741 rfl <|
 x_iload_n dL_law_742 rfl <|
 x_iconst dL_law_743 ic_4 <|
 x_iadd dL_law_744 <|
 x_sld h.2.2.2.1 dL_law_745 <|
 x_aload_n dL_law_746 rfl <|
 x_iload_n dL_law_747 rfl <|
 x_iconst dL_law_748 ic_5 <|
 x_iadd dL_law_749 <|
 x_sld h.2.2.2.2.1 dL_law_750 <|
 x_callV (b := 0) (As := [.int (xs (v3 + (1 : Int32)).toNatClampNeg), .int (xs (v3 + (2 : Int32)).toNatClampNeg), .int (xs (v3 + (3 : Int32)).toNatClampNeg), .int (xs (v3 + (4 : Int32)).toNatClampNeg), .int (xs (v3 + (5 : Int32)).toNatClampNeg)]) ok_X5_chance ml_L_96 (okL ⟨Nat.le_of_ble_eq_true rfl, Nat.le_of_ble_eq_true rfl⟩) dL_law_751 rfl rfl (Nat.le_of_ble_eq_true rfl) rfl rfl rfl h.2.2.2.2.2 <|
 (kL (fun τ1 r2 h3 => x_aload_n dL_law_754 rfl <|
 x_aload_n dL_law_755 rfl <|
 x_iload_n dL_law_756 rfl <|
 x_iconst dL_law_757 ic_1 <|
 x_iadd dL_law_758 <|
 x_sld h.1 dL_law_759 <|
 x_aload_n dL_law_760 rfl <|
 x_iload_n dL_law_761 rfl <|
 x_iconst dL_law_762 ic_2 <|
 x_iadd dL_law_763 <|
 x_sld h.2.1 dL_law_764 <|
 x_aload_n dL_law_765 rfl <|
 x_iload_n dL_law_766 rfl <|
 x_iconst dL_law_767 ic_3 <|
 x_iadd dL_law_768 <|
 x_sld h.2.2.1 dL_law_769 <|
 x_aload_n dL_law_770 rfl <|
 x_iload_n dL_law_771 rfl <|
 x_iconst dL_law_772 ic_4 <|
 x_iadd dL_law_773 <|
 x_sld h.2.2.2.1 dL_law_774 <|
 x_aload_n dL_law_775 rfl <|
 x_iload_n dL_law_776 rfl <|
 x_iconst dL_law_777 ic_5 <|
 x_iadd dL_law_778 <|
 x_sld h.2.2.2.2.1 dL_law_779 <|
 x_callV (b := 40) (As := [.int (xs (v3 + (1 : Int32)).toNatClampNeg), .int (xs (v3 + (2 : Int32)).toNatClampNeg), .int (xs (v3 + (3 : Int32)).toNatClampNeg), .int (xs (v3 + (4 : Int32)).toNatClampNeg), .int (xs (v3 + (5 : Int32)).toNatClampNeg)]) ok_X6_chance ml_L_100 (okL ⟨Nat.le_of_ble_eq_true rfl, Nat.le_of_ble_eq_true rfl⟩) dL_law_780 rfl rfl (Nat.le_of_ble_eq_true rfl) rfl rfl rfl h3 <|
 (kL (fun τ4 r5 h6 => x_lcmp dL_law_783 <|
 x_if_eq (tgt := 915) dL_law_784 (by decide) (fun c7 => (h6.1 c7)) (fun c7 => x_iconst dL_law_787 ic_0 <|
 (h6.2 c7).elim)))))
set_option maxRecDepth 100000 in
set_option maxHeartbeats 4000000 in
theorem B_law_789 {E : EV} {b n : Nat} {xs : Nat → Int32} {σ : Sg} {v3 : Int32} (h : vp_in (v3 + (1 : Int32)) n ∧ vp_in (v3 + (2 : Int32)) n ∧ vp_in (v3 + (3 : Int32)) n ∧ MetI E mi_X5_mark [.ref 0, .int (xs (v3 + (1 : Int32)).toNatClampNeg), .int (xs (v3 + (2 : Int32)).toNatClampNeg), .int (xs (v3 + (3 : Int32)).toNatClampNeg)] σ (fun τ1 r2 => MetI E mi_X6_mark [.ref 40, .int (xs (v3 + (1 : Int32)).toNatClampNeg), .int (xs (v3 + (2 : Int32)).toNatClampNeg), .int (xs (v3 + (3 : Int32)).toNatClampNeg)] τ1 (fun τ4 r5 => ((r2 = r5) → K_law_915 E b n xs τ4 v3) ∧ ((¬ r2 = r5) → False)))) : K_law_789 E b n xs σ v3 :=
 x_aload_n dL_law_789 rfl <|
 x_aload_n dL_law_790 rfl <|
 x_iload_n dL_law_791 rfl <|
 x_iconst dL_law_792 ic_1 <|
 x_iadd dL_law_793 <|
 x_sld h.1 dL_law_794 <|
 x_aload_n dL_law_795 rfl <|
 x_iload_n dL_law_796 rfl <|
 x_iconst dL_law_797 ic_2 <|
 x_iadd dL_law_798 <|
 x_sld h.2.1 dL_law_799 <|
 x_aload_n dL_law_800 rfl <|
 x_iload_n dL_law_801 rfl <|
 x_iconst dL_law_802 ic_3 <|
 x_iadd dL_law_803 <|
 x_sld h.2.2.1 dL_law_804 <|
 x_callV (b := 0) (As := [.int (xs (v3 + (1 : Int32)).toNatClampNeg), .int (xs (v3 + (2 : Int32)).toNatClampNeg), .int (xs (v3 + (3 : Int32)).toNatClampNeg)]) ok_X5_mark ml_L_101 (okL ⟨Nat.le_of_ble_eq_true rfl, Nat.le_of_ble_eq_true rfl⟩) dL_law_805 rfl rfl (Nat.le_of_ble_eq_true rfl) rfl rfl rfl h.2.2.2 <|
 (kI (fun τ1 r2 h3 => x_aload_n dL_law_808 rfl <|
 x_aload_n dL_law_809 rfl <|
 x_iload_n dL_law_810 rfl <|
 x_iconst dL_law_811 ic_1 <|
 x_iadd dL_law_812 <|
 x_sld h.1 dL_law_813 <|
 x_aload_n dL_law_814 rfl <|
 x_iload_n dL_law_815 rfl <|
 x_iconst dL_law_816 ic_2 <|
 x_iadd dL_law_817 <|
 x_sld h.2.1 dL_law_818 <|
 x_aload_n dL_law_819 rfl <|
 x_iload_n dL_law_820 rfl <|
 x_iconst dL_law_821 ic_3 <|
 x_iadd dL_law_822 <|
 x_sld h.2.2.1 dL_law_823 <|
 x_callV (b := 40) (As := [.int (xs (v3 + (1 : Int32)).toNatClampNeg), .int (xs (v3 + (2 : Int32)).toNatClampNeg), .int (xs (v3 + (3 : Int32)).toNatClampNeg)]) ok_X6_mark ml_L_104 (okL ⟨Nat.le_of_ble_eq_true rfl, Nat.le_of_ble_eq_true rfl⟩) dL_law_824 rfl rfl (Nat.le_of_ble_eq_true rfl) rfl rfl rfl h3 <|
 (kI (fun τ4 r5 h6 => x_icmp_eq (tgt := 915) dL_law_827 (by decide) (fun c7 => (h6.1 c7)) (fun c7 => x_iconst dL_law_830 ic_0 <|
 (h6.2 c7).elim)))))
set_option maxRecDepth 100000 in
set_option maxHeartbeats 4000000 in
theorem B_law_832 {E : EV} {b n : Nat} {xs : Nat → Int32} {σ : Sg} {v3 : Int32} (h : vp_in (v3 + (1 : Int32)) n ∧ MetI E mi_X5_keep [.ref 0, .int (xs (v3 + (1 : Int32)).toNatClampNeg)] σ (fun τ1 r2 => MetI E mi_X6_keep [.ref 40, .int (xs (v3 + (1 : Int32)).toNatClampNeg)] τ1 (fun τ4 r5 => ((r2 = r5) → K_law_915 E b n xs τ4 v3) ∧ ((¬ r2 = r5) → False)))) : K_law_832 E b n xs σ v3 :=
 x_aload_n dL_law_832 rfl <|
 x_aload_n dL_law_833 rfl <|
 x_iload_n dL_law_834 rfl <|
 x_iconst dL_law_835 ic_1 <|
 x_iadd dL_law_836 <|
 x_sld h.1 dL_law_837 <|
 x_callV (b := 0) (As := [.int (xs (v3 + (1 : Int32)).toNatClampNeg)]) ok_X5_keep ml_L_105 (okL ⟨Nat.le_of_ble_eq_true rfl, Nat.le_of_ble_eq_true rfl⟩) dL_law_838 rfl rfl (Nat.le_of_ble_eq_true rfl) rfl rfl rfl h.2 <|
 (kI (fun τ1 r2 h3 => x_aload_n dL_law_841 rfl <|
 x_aload_n dL_law_842 rfl <|
 x_iload_n dL_law_843 rfl <|
 x_iconst dL_law_844 ic_1 <|
 x_iadd dL_law_845 <|
 x_sld h.1 dL_law_846 <|
 x_callV (b := 40) (As := [.int (xs (v3 + (1 : Int32)).toNatClampNeg)]) ok_X6_keep ml_L_108 (okL ⟨Nat.le_of_ble_eq_true rfl, Nat.le_of_ble_eq_true rfl⟩) dL_law_847 rfl rfl (Nat.le_of_ble_eq_true rfl) rfl rfl rfl h3 <|
 (kI (fun τ4 r5 h6 => x_icmp_eq (tgt := 915) dL_law_850 (by decide) (fun c7 => (h6.1 c7)) (fun c7 => x_iconst dL_law_853 ic_0 <|
 (h6.2 c7).elim)))))
set_option maxRecDepth 100000 in
set_option maxHeartbeats 4000000 in
theorem B_law_855 {E : EV} {b n : Nat} {xs : Nat → Int32} {σ : Sg} {v3 : Int32} (h : vp_in (v3 + (1 : Int32)) n ∧ MetI E mi_X5_back [.ref 0, .int (xs (v3 + (1 : Int32)).toNatClampNeg)] σ (fun τ1 r2 => MetI E mi_X6_back [.ref 40, .int (xs (v3 + (1 : Int32)).toNatClampNeg)] τ1 (fun τ4 r5 => ((r2 = r5) → K_law_915 E b n xs τ4 v3) ∧ ((¬ r2 = r5) → False)))) : K_law_855 E b n xs σ v3 :=
 x_aload_n dL_law_855 rfl <|
 x_aload_n dL_law_856 rfl <|
 x_iload_n dL_law_857 rfl <|
 x_iconst dL_law_858 ic_1 <|
 x_iadd dL_law_859 <|
 x_sld h.1 dL_law_860 <|
 x_callV (b := 0) (As := [.int (xs (v3 + (1 : Int32)).toNatClampNeg)]) ok_X5_back ml_L_109 (okL ⟨Nat.le_of_ble_eq_true rfl, Nat.le_of_ble_eq_true rfl⟩) dL_law_861 rfl rfl (Nat.le_of_ble_eq_true rfl) rfl rfl rfl h.2 <|
 (kI (fun τ1 r2 h3 => x_aload_n dL_law_864 rfl <|
 x_aload_n dL_law_865 rfl <|
 x_iload_n dL_law_866 rfl <|
 x_iconst dL_law_867 ic_1 <|
 x_iadd dL_law_868 <|
 x_sld h.1 dL_law_869 <|
 x_callV (b := 40) (As := [.int (xs (v3 + (1 : Int32)).toNatClampNeg)]) ok_X6_back ml_L_112 (okL ⟨Nat.le_of_ble_eq_true rfl, Nat.le_of_ble_eq_true rfl⟩) dL_law_870 rfl rfl (Nat.le_of_ble_eq_true rfl) rfl rfl rfl h3 <|
 (kI (fun τ4 r5 h6 => x_icmp_eq (tgt := 915) dL_law_873 (by decide) (fun c7 => (h6.1 c7)) (fun c7 => x_iconst dL_law_876 ic_0 <|
 (h6.2 c7).elim)))))
set_option maxRecDepth 100000 in
set_option maxHeartbeats 4000000 in
theorem B_law_878 {E : EV} {b n : Nat} {xs : Nat → Int32} {σ : Sg} {v3 : Int32} (h : vp_in (v3 + (1 : Int32)) n ∧ MetI E mi_X5_count [.ref 0, .int (xs (v3 + (1 : Int32)).toNatClampNeg)] σ (fun τ1 r2 => MetI E mi_X6_count [.ref 40, .int (xs (v3 + (1 : Int32)).toNatClampNeg)] τ1 (fun τ4 r5 => ((r2 = r5) → K_law_915 E b n xs τ4 v3) ∧ ((¬ r2 = r5) → False)))) : K_law_878 E b n xs σ v3 :=
 x_aload_n dL_law_878 rfl <|
 x_aload_n dL_law_879 rfl <|
 x_iload_n dL_law_880 rfl <|
 x_iconst dL_law_881 ic_1 <|
 x_iadd dL_law_882 <|
 x_sld h.1 dL_law_883 <|
 x_callV (b := 0) (As := [.int (xs (v3 + (1 : Int32)).toNatClampNeg)]) ok_X5_count ml_L_113 (okL ⟨Nat.le_of_ble_eq_true rfl, Nat.le_of_ble_eq_true rfl⟩) dL_law_884 rfl rfl (Nat.le_of_ble_eq_true rfl) rfl rfl rfl h.2 <|
 (kI (fun τ1 r2 h3 => x_aload_n dL_law_887 rfl <|
 x_aload_n dL_law_888 rfl <|
 x_iload_n dL_law_889 rfl <|
 x_iconst dL_law_890 ic_1 <|
 x_iadd dL_law_891 <|
 x_sld h.1 dL_law_892 <|
 x_callV (b := 40) (As := [.int (xs (v3 + (1 : Int32)).toNatClampNeg)]) ok_X6_count ml_L_116 (okL ⟨Nat.le_of_ble_eq_true rfl, Nat.le_of_ble_eq_true rfl⟩) dL_law_893 rfl rfl (Nat.le_of_ble_eq_true rfl) rfl rfl rfl h3 <|
 (kI (fun τ4 r5 h6 => x_icmp_eq (tgt := 915) dL_law_896 (by decide) (fun c7 => (h6.1 c7)) (fun c7 => x_iconst dL_law_899 ic_0 <|
 (h6.2 c7).elim)))))
set_option maxRecDepth 100000 in
set_option maxHeartbeats 4000000 in
theorem B_law_901 {E : EV} {b n : Nat} {xs : Nat → Int32} {σ : Sg} {v3 : Int32} (h : MetL E mi_X5_trace [.ref 0] σ (fun τ1 r2 => MetL E mi_X6_trace [.ref 40] τ1 (fun τ4 r5 => (((lg_cmp r2 r5) = 0) → K_law_915 E b n xs τ4 v3) ∧ ((¬ (lg_cmp r2 r5) = 0) → False)))) : K_law_901 E b n xs σ v3 :=
 x_aload_n dL_law_901 rfl <|
 x_callV (b := 0) (As := []) ok_X5_trace ml_L_117 (okL ⟨Nat.le_of_ble_eq_true rfl, Nat.le_of_ble_eq_true rfl⟩) dL_law_902 rfl rfl (Nat.le_of_ble_eq_true rfl) rfl rfl rfl h <|
 (kL (fun τ1 r2 h3 => x_aload_n dL_law_905 rfl <|
 x_callV (b := 40) (As := []) ok_X6_trace ml_L_121 (okL ⟨Nat.le_of_ble_eq_true rfl, Nat.le_of_ble_eq_true rfl⟩) dL_law_906 rfl rfl (Nat.le_of_ble_eq_true rfl) rfl rfl rfl h3 <|
 (kL (fun τ4 r5 h6 => x_lcmp dL_law_909 <|
 x_if_eq (tgt := 915) dL_law_910 (by decide) (fun c7 => (h6.1 c7)) (fun c7 => x_iconst dL_law_913 ic_0 <|
 (h6.2 c7).elim)))))
set_option maxRecDepth 100000 in
set_option maxHeartbeats 4000000 in
theorem B_law_915 {E : EV} {b n : Nat} {xs : Nat → Int32} {σ : Sg} {v3 : Int32} (h : K_law_18 E b n xs σ (v3 + 6)) : K_law_915 E b n xs σ v3 :=
 x_iinc (v := (v3 + 6)) (L2 := [some (.ref 999), some (.ref 0), some (.ref 40), some (.int (v3 + 6))]) dL_law_915 rfl (by rw [show Int32.ofInt (6) = 6 by decide]) rfl (Nat.le_of_ble_eq_true rfl) <|
 x_goto (tgt := 18) dL_law_918 (by decide) <|
 h
