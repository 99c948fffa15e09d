def qI (Q : Sg → Int32 → Prop) : Sg → Option Value → Prop := fun τ v => ∃ r : Int32, v = some (.int r) ∧ Q τ r
def qL (Q : Sg → Int64 → Prop) : Sg → Option Value → Prop := fun τ v => ∃ r : Int64, v = some (.long r) ∧ Q τ r
def qV (Q : Sg → Prop) : Sg → Option Value → Prop := fun τ v => v = none ∧ Q τ
theorem vpd {i : Int32} {n : Nat} (h : decide (i < 0) = false ∧ decide (n ≤ i.toNatClampNeg) = false) : vp_in i n := fun q => q.elim (of_decide_eq_false h.1) (of_decide_eq_false h.2)
def subL : List (Option Value) → List (Option Value) → Prop
  | none :: a, _ :: b => subL a b
  | some v :: a, some w :: b => v = w ∧ subL a b
  | [], _ => True
  | _, _ => False
theorem subL_at : ∀ (a b : List (Option Value)) (i : Nat) (v : Value), subL a b → a[i]? = some (some v) → b[i]? = some (some v)
  | [], _, i, v, _, h => by simp at h
  | none :: a, [], i, v, h, _ => h.elim
  | some w :: a, [], i, v, h, _ => h.elim
  | some w :: a, none :: b, i, v, h, _ => h.elim
  | none :: a, x :: b, i, v, h, hi => by
    match i with
    | 0 => cases hi
    | j + 1 => exact subL_at a b j v h hi
  | some w :: a, some x :: b, i, v, h, hi => by
    match i with
    | 0 => rw [← h.1]; exact hi
    | j + 1 => exact subL_at a b j v h.2 hi
theorem x_sub {E : EV} {mi : MI} {T : Tgt} {pc : Nat} {L L2 : List (Option Value)} {st : List Value} {σ : Sg} (hs : subL L2 L) (k : J E mi T pc L2 st σ) : J E mi T pc L st σ :=
  fun p l e s m args below meth c C H locs ls hP hS hl => k p l e s m args below meth c C H locs ls hP hS (lvP_of hl (fun i v hi => asl_mem.mpr ⟨v, subL_at _ _ i v hs hi, rfl⟩))
theorem pn_X0 : plainName RX0 = true := by decide +kernel
theorem pn_X1 : plainName RX1 = true := by decide +kernel
theorem pn_X2 : plainName RX2 = true := by decide +kernel
theorem pn_X3 : plainName RX3 = true := by decide +kernel
theorem pn_X4 : plainName RX4 = true := by decide +kernel
theorem pn_X5 : plainName RX5 = true := by decide +kernel
theorem pn_X6 : plainName RX6 = true := by decide +kernel
theorem pn_J0 : plainName RJ0 = true := by decide +kernel
theorem pn_J1 : plainName RJ1 = true := by decide +kernel
theorem pn_J3 : plainName RJ3 = true := by decide +kernel
theorem pn_J6 : plainName RJ6 = true := by decide +kernel
theorem x_mmin {E : EV} {mi : MI} {T : Tgt} {pc idx : Nat} {L : List (Option Value)} {st : List Value} {σ : Sg} {x y : Int32} (hw : Cond.methodLink mi.1.cls idx yJ9_min_7cf53 ∈ Big) (hT : okT T mi_J9_min_7cf53) (hw8 : (st.map fun v => v.category).sum ≤ 8) (hd : decode mi.2.1 pc = .ok (.invokestatic idx, 3)) (k : J E mi T (pc + 3) L (.int (if y < x then y else x) :: st) σ) : J E mi T pc L (.int y :: .int x :: st) σ := by
  intro p l e s m args below meth c C H locs ls hP hS hl
  obtain ⟨hx, hb, hml, hown, hts, hK, hI, hA, hStr, hX⟩ := id C
  have h1 : 1 + 1 ≤ T.1.frames := hT.1.1
  have h2 : 8 + (2 + 11) + 64 * 1 ≤ T.1.locals := hT.1.2
  exact va_mmin hx hb (hml.trans hl.1.symm) hown (hts _ hw) (hts _ ok_J9_min_7cf53.1) (hts _ ok_J9_min_7cf53.2.1) (hts _ ok_J9_min_7cf53.2.2.1) (by omega) (by rw [cv_cats]; omega) hT.2.1 hT.2.2 hd (k p l e s m args below meth c C H locs ls hP hS hl)
theorem x_mmax {E : EV} {mi : MI} {T : Tgt} {pc idx : Nat} {L : List (Option Value)} {st : List Value} {σ : Sg} {x y : Int32} (hw : Cond.methodLink mi.1.cls idx yJ9_max_7cf53 ∈ Big) (hT : okT T mi_J9_max_7cf53) (hw8 : (st.map fun v => v.category).sum ≤ 8) (hd : decode mi.2.1 pc = .ok (.invokestatic idx, 3)) (k : J E mi T (pc + 3) L (.int (if x < y then y else x) :: st) σ) : J E mi T pc L (.int y :: .int x :: st) σ := by
  intro p l e s m args below meth c C H locs ls hP hS hl
  obtain ⟨hx, hb, hml, hown, hts, hK, hI, hA, hStr, hX⟩ := id C
  have h1 : 1 + 1 ≤ T.1.frames := hT.1.1
  have h2 : 8 + (2 + 11) + 64 * 1 ≤ T.1.locals := hT.1.2
  exact va_mmax hx hb (hml.trans hl.1.symm) hown (hts _ hw) (hts _ ok_J9_max_7cf53.1) (hts _ ok_J9_max_7cf53.2.1) (hts _ ok_J9_max_7cf53.2.2.1) (by omega) (by rw [cv_cats]; omega) hT.2.1 hT.2.2 hd (k p l e s m args below meth c C H locs ls hP hS hl)
set_option maxRecDepth 100000 in
set_option maxHeartbeats 4000000 in
theorem M_X4_add_1 {E : EV} {Q : Sg → Prop} {σ : Sg} {a1 : Int32} (h : (((400 : Int32) ≤ (gi σ 101)) → Q σ) ∧ ((¬ (400 : Int32) ≤ (gi σ 101)) → vp_in (gi σ 101) 400 ∧ Q (si (sm σ 2 (gi σ 101).toNatClampNeg a1) 101 ((gi σ 101) + (1 : Int32))))) : MetV E mi_X4_add [.ref 1, .int a1] σ Q :=
 met_of (L := [some (.ref 1), some (.int a1)]) pn_X4 rfl (Nat.le_of_ble_eq_true rfl) <|
 x_aload_n dX4_add_0 rfl <|
 x_getf (v := .int (gi σ 101)) fl_X4_15 rfl rfl rfl dX4_add_1 <|
 x_sipush dX4_add_4 sp_400 <|
 x_icmp_ge (tgt := 30) dX4_add_7 (by decide) (fun c1 => x_return rfl dX4_add_30 ⟨rfl, (h.1 c1)⟩) (fun c1 => x_aload_n dX4_add_10 rfl <|
 x_getf (v := .ref 2) fl_X4_9 rfl rfl rfl dX4_add_11 <|
 x_aload_n dX4_add_14 rfl <|
 x_getf (v := .int (gi σ 101)) fl_X4_15 rfl rfl rfl dX4_add_15 <|
 x_iload_n dX4_add_18 rfl <|
 x_iastore rfl (h.2 c1).1 dX4_add_19 <|
 x_aload_n dX4_add_20 rfl <|
 x_dup dX4_add_21 rfl <|
 x_getf (v := .int (gi σ 101)) fl_X4_15 rfl rfl rfl dX4_add_22 <|
 x_iconst dX4_add_25 ic_1 <|
 x_iadd dX4_add_26 <|
 x_puti fp_X4_15 rfl rfl dX4_add_27 <|
 x_return rfl dX4_add_30 ⟨rfl, (h.2 c1).2⟩)
set_option maxRecDepth 100000 in
set_option maxHeartbeats 4000000 in
theorem M_X0_forget_14 {E : EV} {Q : Sg → Prop} {σ : Sg} (h : Q (si (si (si σ 1405 (0 : Int32)) 1406 (0 : Int32)) 1407 (0 : Int32))) : MetV E mi_X0_forget [.ref 14] σ Q :=
 met_of (L := [some (.ref 14)]) pn_X0 rfl (Nat.le_of_ble_eq_true rfl) <|
 x_aload_n dX0_forget_0 rfl <|
 x_iconst dX0_forget_1 ic_0 <|
 x_puti fp_X0_27 rfl rfl dX0_forget_2 <|
 x_aload_n dX0_forget_5 rfl <|
 x_iconst dX0_forget_6 ic_0 <|
 x_puti fp_X0_31 rfl rfl dX0_forget_7 <|
 x_aload_n dX0_forget_10 rfl <|
 x_iconst dX0_forget_11 ic_0 <|
 x_puti fp_X0_34 rfl rfl dX0_forget_12 <|
 x_return rfl dX0_forget_15 ⟨rfl, h⟩
set_option maxRecDepth 100000 in
set_option maxHeartbeats 4000000 in
theorem M_X4_byteAt_1 {E : EV} {Q : Sg → Int32 → Prop} {σ : Sg} {a1 : Int32} (h : ((a1 < 0) → Q σ (-1 : Int32)) ∧ ((¬ a1 < 0) → (((gi σ 101) ≤ a1) → Q σ (-1 : Int32)) ∧ ((¬ (gi σ 101) ≤ a1) → vp_in a1 400 ∧ Q σ ((gm σ 2) a1.toNatClampNeg)))) : MetI E mi_X4_byteAt [.ref 1, .int a1] σ Q :=
 met_of (L := [some (.ref 1), some (.int a1)]) pn_X4 rfl (Nat.le_of_ble_eq_true rfl) <|
 x_iload_n dX4_byteAt_0 rfl <|
 x_if_lt (tgt := 21) dX4_byteAt_1 (by decide) (fun c1 => x_iconst dX4_byteAt_21 ic_m1 <|
 x_ireturn rfl dX4_byteAt_22 ⟨_, rfl, (h.1 c1)⟩) (fun c1 => x_iload_n dX4_byteAt_4 rfl <|
 x_aload_n dX4_byteAt_5 rfl <|
 x_getf (v := .int (gi σ 101)) fl_X4_15 rfl rfl rfl dX4_byteAt_6 <|
 x_icmp_ge (tgt := 21) dX4_byteAt_9 (by decide) (fun c2 => x_iconst dX4_byteAt_21 ic_m1 <|
 x_ireturn rfl dX4_byteAt_22 ⟨_, rfl, ((h.2 c1).1 c2)⟩) (fun c2 => x_aload_n dX4_byteAt_12 rfl <|
 x_getf (v := .ref 2) fl_X4_9 rfl rfl rfl dX4_byteAt_13 <|
 x_iload_n dX4_byteAt_16 rfl <|
 x_iaload (v := ((gm σ 2) a1.toNatClampNeg)) rfl ((h.2 c1).2 c2).1 rfl dX4_byteAt_17 <|
 x_goto (tgt := 22) dX4_byteAt_18 (by decide) <|
 x_ireturn rfl dX4_byteAt_22 ⟨_, rfl, ((h.2 c1).2 c2).2⟩))
set_option maxRecDepth 100000 in
set_option maxHeartbeats 4000000 in
theorem M_X2_isLetter {E : EV} {Q : Sg → Int32 → Prop} {σ : Sg} {a1 : Int32} (h : ((a1 < (97 : Int32)) → Q σ (0 : Int32)) ∧ ((¬ a1 < (97 : Int32)) → (((122 : Int32) < a1) → Q σ (0 : Int32)) ∧ ((¬ (122 : Int32) < a1) → Q σ (1 : Int32)))) : MetI E mi_X2_isLetter [.int a1] σ Q :=
 met_of (L := [some (.int a1)]) pn_X2 rfl (Nat.le_of_ble_eq_true rfl) <|
 x_iload_n dX2_isLetter_0 rfl <|
 x_bipush dX2_isLetter_1 bp_97 <|
 x_icmp_lt (tgt := 16) dX2_isLetter_3 (by decide) (fun c1 => x_iconst dX2_isLetter_16 ic_0 <|
 x_zreturn rfl (Or.inl rfl) dX2_isLetter_17 ⟨_, rfl, (h.1 c1)⟩) (fun c1 => x_iload_n dX2_isLetter_6 rfl <|
 x_bipush dX2_isLetter_7 bp_122 <|
 x_icmp_gt (tgt := 16) dX2_isLetter_9 (by decide) (fun c2 => x_iconst dX2_isLetter_16 ic_0 <|
 x_zreturn rfl (Or.inl rfl) dX2_isLetter_17 ⟨_, rfl, ((h.2 c1).1 c2)⟩) (fun c2 => x_iconst dX2_isLetter_12 ic_1 <|
 x_goto (tgt := 17) dX2_isLetter_13 (by decide) <|
 x_zreturn rfl (Or.inr rfl) dX2_isLetter_17 ⟨_, rfl, ((h.2 c1).2 c2)⟩))
set_option maxRecDepth 100000 in
set_option maxHeartbeats 4000000 in
theorem M_X2_isDigit {E : EV} {Q : Sg → Int32 → Prop} {σ : Sg} {a1 : Int32} (h : ((a1 < (48 : Int32)) → Q σ (0 : Int32)) ∧ ((¬ a1 < (48 : Int32)) → (((57 : Int32) < a1) → Q σ (0 : Int32)) ∧ ((¬ (57 : Int32) < a1) → Q σ (1 : Int32)))) : MetI E mi_X2_isDigit [.int a1] σ Q :=
 met_of (L := [some (.int a1)]) pn_X2 rfl (Nat.le_of_ble_eq_true rfl) <|
 x_iload_n dX2_isDigit_0 rfl <|
 x_bipush dX2_isDigit_1 bp_48 <|
 x_icmp_lt (tgt := 16) dX2_isDigit_3 (by decide) (fun c1 => x_iconst dX2_isDigit_16 ic_0 <|
 x_zreturn rfl (Or.inl rfl) dX2_isDigit_17 ⟨_, rfl, (h.1 c1)⟩) (fun c1 => x_iload_n dX2_isDigit_6 rfl <|
 x_bipush dX2_isDigit_7 bp_57 <|
 x_icmp_gt (tgt := 16) dX2_isDigit_9 (by decide) (fun c2 => x_iconst dX2_isDigit_16 ic_0 <|
 x_zreturn rfl (Or.inl rfl) dX2_isDigit_17 ⟨_, rfl, ((h.2 c1).1 c2)⟩) (fun c2 => x_iconst dX2_isDigit_12 ic_1 <|
 x_goto (tgt := 17) dX2_isDigit_13 (by decide) <|
 x_zreturn rfl (Or.inr rfl) dX2_isDigit_17 ⟨_, rfl, ((h.2 c1).2 c2)⟩))
def K_X2_readDigits_11_5 (E : EV) (Q : Sg → Prop) (σ : Sg) : Prop := J E mi_X2_readDigits (tgM E mi_X2_readDigits (qV Q)) 5 [some (.ref 11), none] [] σ
set_option maxRecDepth 100000 in
set_option maxHeartbeats 4000000 in
theorem B_X2_readDigits_11_5 {E : EV} {Q : Sg → Prop} {σ : Sg} (h : (((gi σ 101) ≤ (gi σ 1103)) → MetI E mi_X4_byteAt [.ref 1, .int (gi σ 1106)] σ (fun τ2 r3 => ((¬ r3 = (48 : Int32)) → (((gi τ2 1105) ≤ (99 : Int32)) → Q (si τ2 1104 (2 : Int32))) ∧ ((¬ (gi τ2 1105) ≤ (99 : Int32)) → Q (si τ2 1104 (4 : Int32)))) ∧ ((r3 = (48 : Int32)) → ((((gi τ2 1103) - (gi τ2 1106)) ≤ (1 : Int32)) → (((gi τ2 1105) ≤ (99 : Int32)) → Q (si τ2 1104 (2 : Int32))) ∧ ((¬ (gi τ2 1105) ≤ (99 : Int32)) → Q (si τ2 1104 (4 : Int32)))) ∧ ((¬ ((gi τ2 1103) - (gi τ2 1106)) ≤ (1 : Int32)) → Q (si τ2 1104 (4 : Int32)))))) ∧ ((¬ (gi σ 101) ≤ (gi σ 1103)) → MetI E mi_X4_byteAt [.ref 1, .int (gi σ 1103)] σ (fun τ9 r10 => MetI E mi_X2_isDigit [.int r10] τ9 (fun τ12 r13 => ((r13 = 0) → MetI E mi_X4_byteAt [.ref 1, .int (gi τ12 1106)] τ12 (fun τ16 r17 => ((¬ r17 = (48 : Int32)) → (((gi τ16 1105) ≤ (99 : Int32)) → Q (si τ16 1104 (2 : Int32))) ∧ ((¬ (gi τ16 1105) ≤ (99 : Int32)) → Q (si τ16 1104 (4 : Int32)))) ∧ ((r17 = (48 : Int32)) → ((((gi τ16 1103) - (gi τ16 1106)) ≤ (1 : Int32)) → (((gi τ16 1105) ≤ (99 : Int32)) → Q (si τ16 1104 (2 : Int32))) ∧ ((¬ (gi τ16 1105) ≤ (99 : Int32)) → Q (si τ16 1104 (4 : Int32)))) ∧ ((¬ ((gi τ16 1103) - (gi τ16 1106)) ≤ (1 : Int32)) → Q (si τ16 1104 (4 : Int32)))))) ∧ ((¬ r13 = 0) → MetI E mi_X4_byteAt [.ref 1, .int (gi τ12 1103)] τ12 (fun τ23 r24 => K_X2_readDigits_11_5 E Q (si (si τ23 1105 (if (100 : Int32) < ((((gi τ12 1105) * (10 : Int32)) + r24) - (48 : Int32)) then (100 : Int32) else ((((gi τ12 1105) * (10 : Int32)) + r24) - (48 : Int32)))) 1103 ((gi τ23 1103) + (1 : Int32))))))))) : K_X2_readDigits_11_5 E Q σ :=
 x_aload_n dX2_readDigits_5 rfl <|
 x_getf (v := .int (gi σ 1103)) fl_X2_25 rfl rfl rfl dX2_readDigits_6 <|
 x_aload_n dX2_readDigits_9 rfl <|
 x_getf (v := .ref 1) fl_X2_38 rfl rfl rfl dX2_readDigits_10 <|
 x_getf (v := .int (gi σ 101)) fl_X2_121 rfl rfl rfl dX2_readDigits_13 <|
 x_icmp_ge (tgt := 80) dX2_readDigits_16 (by decide) (fun c1 => x_aload_n dX2_readDigits_80 rfl <|
 x_getf (v := .ref 1) fl_X2_38 rfl rfl rfl dX2_readDigits_81 <|
 x_aload_n dX2_readDigits_84 rfl <|
 x_getf (v := .int (gi σ 1106)) fl_X2_35 rfl rfl rfl dX2_readDigits_85 <|
 x_callV (b := 1) (As := [.int (gi σ 1106)]) ok_X4_byteAt ml_X2_111 (okM (by decide)) dX2_readDigits_88 rfl rfl (Nat.le_of_ble_eq_true rfl) rfl rfl rfl (h.1 c1) <|
 (kI (fun τ2 r3 h4 => x_bipush dX2_readDigits_91 bp_48 <|
 x_icmp_ne (tgt := 113) dX2_readDigits_93 (by decide) (fun c5 => x_iconst dX2_readDigits_113 ic_0 <|
 x_istore_n (L2 := [some (.ref 11), some (.int (0 : Int32))]) dX2_readDigits_114 rfl (Nat.le_of_ble_eq_true rfl) <|
 x_aload_n dX2_readDigits_115 rfl <|
 x_iload_n dX2_readDigits_116 rfl <|
 x_if_ne (tgt := 129) dX2_readDigits_117 (by decide) (fun c => absurd c (by decide)) (fun _ => x_aload_n dX2_readDigits_120 rfl <|
 x_getf (v := .int (gi τ2 1105)) fl_X2_32 rfl rfl rfl dX2_readDigits_121 <|
 x_bipush dX2_readDigits_124 bp_99 <|
 x_icmp_le (tgt := 133) dX2_readDigits_126 (by decide) (fun c6 => x_iconst dX2_readDigits_133 ic_2 <|
 x_puti fp_X2_29 rfl rfl dX2_readDigits_134 <|
 x_return rfl dX2_readDigits_137 ⟨rfl, ((h4.1 c5).1 c6)⟩) (fun c6 => x_iconst dX2_readDigits_129 ic_4 <|
 x_goto (tgt := 134) dX2_readDigits_130 (by decide) <|
 x_puti fp_X2_29 rfl rfl dX2_readDigits_134 <|
 x_return rfl dX2_readDigits_137 ⟨rfl, ((h4.1 c5).2 c6)⟩))) (fun c5 => x_aload_n dX2_readDigits_96 rfl <|
 x_getf (v := .int (gi τ2 1103)) fl_X2_25 rfl rfl rfl dX2_readDigits_97 <|
 x_aload_n dX2_readDigits_100 rfl <|
 x_getf (v := .int (gi τ2 1106)) fl_X2_35 rfl rfl rfl dX2_readDigits_101 <|
 x_isub dX2_readDigits_104 <|
 x_iconst dX2_readDigits_105 ic_1 <|
 x_icmp_le (tgt := 113) dX2_readDigits_106 (by decide) (fun c7 => x_iconst dX2_readDigits_113 ic_0 <|
 x_istore_n (L2 := [some (.ref 11), some (.int (0 : Int32))]) dX2_readDigits_114 rfl (Nat.le_of_ble_eq_true rfl) <|
 x_aload_n dX2_readDigits_115 rfl <|
 x_iload_n dX2_readDigits_116 rfl <|
 x_if_ne (tgt := 129) dX2_readDigits_117 (by decide) (fun c => absurd c (by decide)) (fun _ => x_aload_n dX2_readDigits_120 rfl <|
 x_getf (v := .int (gi τ2 1105)) fl_X2_32 rfl rfl rfl dX2_readDigits_121 <|
 x_bipush dX2_readDigits_124 bp_99 <|
 x_icmp_le (tgt := 133) dX2_readDigits_126 (by decide) (fun c8 => x_iconst dX2_readDigits_133 ic_2 <|
 x_puti fp_X2_29 rfl rfl dX2_readDigits_134 <|
 x_return rfl dX2_readDigits_137 ⟨rfl, (((h4.2 c5).1 c7).1 c8)⟩) (fun c8 => x_iconst dX2_readDigits_129 ic_4 <|
 x_goto (tgt := 134) dX2_readDigits_130 (by decide) <|
 x_puti fp_X2_29 rfl rfl dX2_readDigits_134 <|
 x_return rfl dX2_readDigits_137 ⟨rfl, (((h4.2 c5).1 c7).2 c8)⟩))) (fun c7 => x_iconst dX2_readDigits_109 ic_1 <|
 x_goto (tgt := 114) dX2_readDigits_110 (by decide) <|
 x_istore_n (L2 := [some (.ref 11), some (.int (1 : Int32))]) dX2_readDigits_114 rfl (Nat.le_of_ble_eq_true rfl) <|
 x_aload_n dX2_readDigits_115 rfl <|
 x_iload_n dX2_readDigits_116 rfl <|
 x_if_ne (tgt := 129) dX2_readDigits_117 (by decide) (fun _ => x_iconst dX2_readDigits_129 ic_4 <|
 x_goto (tgt := 134) dX2_readDigits_130 (by decide) <|
 x_puti fp_X2_29 rfl rfl dX2_readDigits_134 <|
 x_return rfl dX2_readDigits_137 ⟨rfl, ((h4.2 c5).2 c7)⟩) (fun c => absurd c (by decide))))))) (fun c1 => x_aload_n dX2_readDigits_19 rfl <|
 x_getf (v := .ref 1) fl_X2_38 rfl rfl rfl dX2_readDigits_20 <|
 x_aload_n dX2_readDigits_23 rfl <|
 x_getf (v := .int (gi σ 1103)) fl_X2_25 rfl rfl rfl dX2_readDigits_24 <|
 x_callV (b := 1) (As := [.int (gi σ 1103)]) ok_X4_byteAt ml_X2_111 (okM (by decide)) dX2_readDigits_27 rfl rfl (Nat.le_of_ble_eq_true rfl) rfl rfl rfl (h.2 c1) <|
 (kI (fun τ9 r10 h11 => x_callS (As := [.int r10]) ok_X2_isDigit ml_X2_128 (okM (by decide)) dX2_readDigits_30 rfl rfl (Nat.le_of_ble_eq_true rfl) h11 <|
 (kI (fun τ12 r13 h14 => x_if_eq (tgt := 80) dX2_readDigits_33 (by decide) (fun c15 => x_aload_n dX2_readDigits_80 rfl <|
 x_getf (v := .ref 1) fl_X2_38 rfl rfl rfl dX2_readDigits_81 <|
 x_aload_n dX2_readDigits_84 rfl <|
 x_getf (v := .int (gi τ12 1106)) fl_X2_35 rfl rfl rfl dX2_readDigits_85 <|
 x_callV (b := 1) (As := [.int (gi τ12 1106)]) ok_X4_byteAt ml_X2_111 (okM (by decide)) dX2_readDigits_88 rfl rfl (Nat.le_of_ble_eq_true rfl) rfl rfl rfl (h14.1 c15) <|
 (kI (fun τ16 r17 h18 => x_bipush dX2_readDigits_91 bp_48 <|
 x_icmp_ne (tgt := 113) dX2_readDigits_93 (by decide) (fun c19 => x_iconst dX2_readDigits_113 ic_0 <|
 x_istore_n (L2 := [some (.ref 11), some (.int (0 : Int32))]) dX2_readDigits_114 rfl (Nat.le_of_ble_eq_true rfl) <|
 x_aload_n dX2_readDigits_115 rfl <|
 x_iload_n dX2_readDigits_116 rfl <|
 x_if_ne (tgt := 129) dX2_readDigits_117 (by decide) (fun c => absurd c (by decide)) (fun _ => x_aload_n dX2_readDigits_120 rfl <|
 x_getf (v := .int (gi τ16 1105)) fl_X2_32 rfl rfl rfl dX2_readDigits_121 <|
 x_bipush dX2_readDigits_124 bp_99 <|
 x_icmp_le (tgt := 133) dX2_readDigits_126 (by decide) (fun c20 => x_iconst dX2_readDigits_133 ic_2 <|
 x_puti fp_X2_29 rfl rfl dX2_readDigits_134 <|
 x_return rfl dX2_readDigits_137 ⟨rfl, ((h18.1 c19).1 c20)⟩) (fun c20 => x_iconst dX2_readDigits_129 ic_4 <|
 x_goto (tgt := 134) dX2_readDigits_130 (by decide) <|
 x_puti fp_X2_29 rfl rfl dX2_readDigits_134 <|
 x_return rfl dX2_readDigits_137 ⟨rfl, ((h18.1 c19).2 c20)⟩))) (fun c19 => x_aload_n dX2_readDigits_96 rfl <|
 x_getf (v := .int (gi τ16 1103)) fl_X2_25 rfl rfl rfl dX2_readDigits_97 <|
 x_aload_n dX2_readDigits_100 rfl <|
 x_getf (v := .int (gi τ16 1106)) fl_X2_35 rfl rfl rfl dX2_readDigits_101 <|
 x_isub dX2_readDigits_104 <|
 x_iconst dX2_readDigits_105 ic_1 <|
 x_icmp_le (tgt := 113) dX2_readDigits_106 (by decide) (fun c21 => x_iconst dX2_readDigits_113 ic_0 <|
 x_istore_n (L2 := [some (.ref 11), some (.int (0 : Int32))]) dX2_readDigits_114 rfl (Nat.le_of_ble_eq_true rfl) <|
 x_aload_n dX2_readDigits_115 rfl <|
 x_iload_n dX2_readDigits_116 rfl <|
 x_if_ne (tgt := 129) dX2_readDigits_117 (by decide) (fun c => absurd c (by decide)) (fun _ => x_aload_n dX2_readDigits_120 rfl <|
 x_getf (v := .int (gi τ16 1105)) fl_X2_32 rfl rfl rfl dX2_readDigits_121 <|
 x_bipush dX2_readDigits_124 bp_99 <|
 x_icmp_le (tgt := 133) dX2_readDigits_126 (by decide) (fun c22 => x_iconst dX2_readDigits_133 ic_2 <|
 x_puti fp_X2_29 rfl rfl dX2_readDigits_134 <|
 x_return rfl dX2_readDigits_137 ⟨rfl, (((h18.2 c19).1 c21).1 c22)⟩) (fun c22 => x_iconst dX2_readDigits_129 ic_4 <|
 x_goto (tgt := 134) dX2_readDigits_130 (by decide) <|
 x_puti fp_X2_29 rfl rfl dX2_readDigits_134 <|
 x_return rfl dX2_readDigits_137 ⟨rfl, (((h18.2 c19).1 c21).2 c22)⟩))) (fun c21 => x_iconst dX2_readDigits_109 ic_1 <|
 x_goto (tgt := 114) dX2_readDigits_110 (by decide) <|
 x_istore_n (L2 := [some (.ref 11), some (.int (1 : Int32))]) dX2_readDigits_114 rfl (Nat.le_of_ble_eq_true rfl) <|
 x_aload_n dX2_readDigits_115 rfl <|
 x_iload_n dX2_readDigits_116 rfl <|
 x_if_ne (tgt := 129) dX2_readDigits_117 (by decide) (fun _ => x_iconst dX2_readDigits_129 ic_4 <|
 x_goto (tgt := 134) dX2_readDigits_130 (by decide) <|
 x_puti fp_X2_29 rfl rfl dX2_readDigits_134 <|
 x_return rfl dX2_readDigits_137 ⟨rfl, ((h18.2 c19).2 c21)⟩) (fun c => absurd c (by decide))))))) (fun c15 => x_aload_n dX2_readDigits_36 rfl <|
 x_aload_n dX2_readDigits_37 rfl <|
 x_getf (v := .int (gi τ12 1105)) fl_X2_32 rfl rfl rfl dX2_readDigits_38 <|
 x_bipush dX2_readDigits_41 bp_10 <|
 x_imul dX2_readDigits_43 <|
 x_aload_n dX2_readDigits_44 rfl <|
 x_getf (v := .ref 1) fl_X2_38 rfl rfl rfl dX2_readDigits_45 <|
 x_aload_n dX2_readDigits_48 rfl <|
 x_getf (v := .int (gi τ12 1103)) fl_X2_25 rfl rfl rfl dX2_readDigits_49 <|
 x_callV (b := 1) (As := [.int (gi τ12 1103)]) ok_X4_byteAt ml_X2_111 (okM (by decide)) dX2_readDigits_52 rfl rfl (Nat.le_of_ble_eq_true rfl) rfl rfl rfl (h14.2 c15) <|
 (kI (fun τ23 r24 h25 => x_iadd dX2_readDigits_55 <|
 x_bipush dX2_readDigits_56 bp_48 <|
 x_isub dX2_readDigits_58 <|
 x_bipush dX2_readDigits_59 bp_100 <|
 x_mmin ml_X2_134 (okM (by decide)) (Nat.le_of_ble_eq_true rfl) dX2_readDigits_61 <|
 x_puti fp_X2_32 rfl rfl dX2_readDigits_64 <|
 x_aload_n dX2_readDigits_67 rfl <|
 x_dup dX2_readDigits_68 rfl <|
 x_getf (v := .int (gi τ23 1103)) fl_X2_25 rfl rfl rfl dX2_readDigits_69 <|
 x_iconst dX2_readDigits_72 ic_1 <|
 x_iadd dX2_readDigits_73 <|
 x_puti fp_X2_25 rfl rfl dX2_readDigits_74 <|
 x_goto (tgt := 5) dX2_readDigits_77 (by decide) <|
 h25))))))))
set_option maxRecDepth 100000 in
set_option maxHeartbeats 4000000 in
theorem M_X2_readDigits_11 {E : EV} {Q : Sg → Prop} {σ : Sg} (h : K_X2_readDigits_11_5 E Q (si σ 1105 (0 : Int32))) : MetV E mi_X2_readDigits [.ref 11] σ Q :=
 met_of (L := [some (.ref 11), none]) pn_X2 rfl (Nat.le_of_ble_eq_true rfl) <|
 x_aload_n dX2_readDigits_0 rfl <|
 x_iconst dX2_readDigits_1 ic_0 <|
 x_puti fp_X2_32 rfl rfl dX2_readDigits_2 <|
 h
def K_X2_readWord_11_0 (E : EV) (Q : Sg → Prop) (σ : Sg) : Prop := J E mi_X2_readWord (tgM E mi_X2_readWord (qV Q)) 0 [some (.ref 11)] [] σ
set_option maxRecDepth 100000 in
set_option maxHeartbeats 4000000 in
theorem B_X2_readWord_11_0 {E : EV} {Q : Sg → Prop} {σ : Sg} (h : (((gi σ 101) ≤ (gi σ 1103)) → Q (si σ 1104 (1 : Int32))) ∧ ((¬ (gi σ 101) ≤ (gi σ 1103)) → MetI E mi_X4_byteAt [.ref 1, .int (gi σ 1103)] σ (fun τ2 r3 => MetI E mi_X2_isLetter [.int r3] τ2 (fun τ5 r6 => ((r6 = 0) → Q (si τ5 1104 (1 : Int32))) ∧ ((¬ r6 = 0) → K_X2_readWord_11_0 E Q (si τ5 1103 ((gi τ5 1103) + (1 : Int32)))))))) : K_X2_readWord_11_0 E Q σ :=
 x_aload_n dX2_readWord_0 rfl <|
 x_getf (v := .int (gi σ 1103)) fl_X2_25 rfl rfl rfl dX2_readWord_1 <|
 x_aload_n dX2_readWord_4 rfl <|
 x_getf (v := .ref 1) fl_X2_38 rfl rfl rfl dX2_readWord_5 <|
 x_getf (v := .int (gi σ 101)) fl_X2_121 rfl rfl rfl dX2_readWord_8 <|
 x_icmp_ge (tgt := 44) dX2_readWord_11 (by decide) (fun c1 => x_aload_n dX2_readWord_44 rfl <|
 x_iconst dX2_readWord_45 ic_1 <|
 x_puti fp_X2_29 rfl rfl dX2_readWord_46 <|
 x_return rfl dX2_readWord_49 ⟨rfl, (h.1 c1)⟩) (fun c1 => x_aload_n dX2_readWord_14 rfl <|
 x_getf (v := .ref 1) fl_X2_38 rfl rfl rfl dX2_readWord_15 <|
 x_aload_n dX2_readWord_18 rfl <|
 x_getf (v := .int (gi σ 1103)) fl_X2_25 rfl rfl rfl dX2_readWord_19 <|
 x_callV (b := 1) (As := [.int (gi σ 1103)]) ok_X4_byteAt ml_X2_111 (okM (by decide)) dX2_readWord_22 rfl rfl (Nat.le_of_ble_eq_true rfl) rfl rfl rfl (h.2 c1) <|
 (kI (fun τ2 r3 h4 => x_callS (As := [.int r3]) ok_X2_isLetter ml_X2_122 (okM (by decide)) dX2_readWord_25 rfl rfl (Nat.le_of_ble_eq_true rfl) h4 <|
 (kI (fun τ5 r6 h7 => x_if_eq (tgt := 44) dX2_readWord_28 (by decide) (fun c8 => x_aload_n dX2_readWord_44 rfl <|
 x_iconst dX2_readWord_45 ic_1 <|
 x_puti fp_X2_29 rfl rfl dX2_readWord_46 <|
 x_return rfl dX2_readWord_49 ⟨rfl, (h7.1 c8)⟩) (fun c8 => x_aload_n dX2_readWord_31 rfl <|
 x_dup dX2_readWord_32 rfl <|
 x_getf (v := .int (gi τ5 1103)) fl_X2_25 rfl rfl rfl dX2_readWord_33 <|
 x_iconst dX2_readWord_36 ic_1 <|
 x_iadd dX2_readWord_37 <|
 x_puti fp_X2_25 rfl rfl dX2_readWord_38 <|
 x_goto (tgt := 0) dX2_readWord_41 (by decide) <|
 (h7.2 c8)))))))
set_option maxRecDepth 100000 in
set_option maxHeartbeats 4000000 in
theorem M_X2_readWord_11 {E : EV} {Q : Sg → Prop} {σ : Sg} (h : K_X2_readWord_11_0 E Q σ) : MetV E mi_X2_readWord [.ref 11] σ Q :=
 met_of (L := [some (.ref 11)]) pn_X2 rfl (Nat.le_of_ble_eq_true rfl) <|
 h
def K_X2_readToken_11_0 (E : EV) (Q : Sg → Prop) (σ : Sg) : Prop := J E mi_X2_readToken (tgM E mi_X2_readToken (qV Q)) 0 [some (.ref 11), none] [] σ
set_option maxRecDepth 100000 in
set_option maxHeartbeats 4000000 in
theorem B_X2_readToken_11_0 {E : EV} {Q : Sg → Prop} {σ : Sg} (h : (((gi σ 101) ≤ (gi σ 1103)) → MetI E mi_X4_byteAt [.ref 1, .int (gi σ 1103)] (si σ 1106 (gi σ 1103)) (fun τ2 r3 => ((0 ≤ r3) → MetI E mi_X2_isLetter [.int r3] τ2 (fun τ6 r7 => ((r7 = 0) → MetI E mi_X2_isDigit [.int r3] τ6 (fun τ10 r11 => ((r11 = 0) → ((¬ r3 = (59 : Int32)) → Q (si (si τ10 1103 ((gi τ10 1103) + (1 : Int32))) 1104 (4 : Int32))) ∧ ((r3 = (59 : Int32)) → Q (si (si τ10 1103 ((gi τ10 1103) + (1 : Int32))) 1104 (3 : Int32)))) ∧ ((¬ r11 = 0) → MetV E mi_X2_readDigits [.ref 11] τ10 (fun τ15 => Q τ15)))) ∧ ((¬ r7 = 0) → MetV E mi_X2_readWord [.ref 11] τ6 (fun τ17 => Q τ17)))) ∧ ((¬ 0 ≤ r3) → Q (si τ2 1104 (0 : Int32))))) ∧ ((¬ (gi σ 101) ≤ (gi σ 1103)) → MetI E mi_X4_byteAt [.ref 1, .int (gi σ 1103)] σ (fun τ19 r20 => ((¬ r20 = (32 : Int32)) → MetI E mi_X4_byteAt [.ref 1, .int (gi τ19 1103)] (si τ19 1106 (gi τ19 1103)) (fun τ23 r24 => ((0 ≤ r24) → MetI E mi_X2_isLetter [.int r24] τ23 (fun τ27 r28 => ((r28 = 0) → MetI E mi_X2_isDigit [.int r24] τ27 (fun τ31 r32 => ((r32 = 0) → ((¬ r24 = (59 : Int32)) → Q (si (si τ31 1103 ((gi τ31 1103) + (1 : Int32))) 1104 (4 : Int32))) ∧ ((r24 = (59 : Int32)) → Q (si (si τ31 1103 ((gi τ31 1103) + (1 : Int32))) 1104 (3 : Int32)))) ∧ ((¬ r32 = 0) → MetV E mi_X2_readDigits [.ref 11] τ31 (fun τ36 => Q τ36)))) ∧ ((¬ r28 = 0) → MetV E mi_X2_readWord [.ref 11] τ27 (fun τ38 => Q τ38)))) ∧ ((¬ 0 ≤ r24) → Q (si τ23 1104 (0 : Int32))))) ∧ ((r20 = (32 : Int32)) → K_X2_readToken_11_0 E Q (si τ19 1103 ((gi τ19 1103) + (1 : Int32))))))) : K_X2_readToken_11_0 E Q σ :=
 x_aload_n dX2_readToken_0 rfl <|
 x_getf (v := .int (gi σ 1103)) fl_X2_25 rfl rfl rfl dX2_readToken_1 <|
 x_aload_n dX2_readToken_4 rfl <|
 x_getf (v := .ref 1) fl_X2_38 rfl rfl rfl dX2_readToken_5 <|
 x_getf (v := .int (gi σ 101)) fl_X2_121 rfl rfl rfl dX2_readToken_8 <|
 x_icmp_ge (tgt := 43) dX2_readToken_11 (by decide) (fun c1 => x_aload_n dX2_readToken_43 rfl <|
 x_aload_n dX2_readToken_44 rfl <|
 x_getf (v := .int (gi σ 1103)) fl_X2_25 rfl rfl rfl dX2_readToken_45 <|
 x_puti fp_X2_35 rfl rfl dX2_readToken_48 <|
 x_aload_n dX2_readToken_51 rfl <|
 x_getf (v := .ref 1) fl_X2_38 rfl rfl rfl dX2_readToken_52 <|
 x_aload_n dX2_readToken_55 rfl <|
 x_getf (v := .int (gi σ 1103)) fl_X2_25 rfl rfl rfl dX2_readToken_56 <|
 x_callV (b := 1) (As := [.int (gi σ 1103)]) ok_X4_byteAt ml_X2_111 (okM (by decide)) dX2_readToken_59 rfl rfl (Nat.le_of_ble_eq_true rfl) rfl rfl rfl (h.1 c1) <|
 (kI (fun τ2 r3 h4 => x_istore_n (L2 := [some (.ref 11), some (.int r3)]) dX2_readToken_62 rfl (Nat.le_of_ble_eq_true rfl) <|
 x_iload_n dX2_readToken_63 rfl <|
 x_if_ge (tgt := 75) dX2_readToken_64 (by decide) (fun c5 => x_iload_n dX2_readToken_75 rfl <|
 x_callS (As := [.int r3]) ok_X2_isLetter ml_X2_122 (okM (by decide)) dX2_readToken_76 rfl rfl (Nat.le_of_ble_eq_true rfl) (h4.1 c5) <|
 (kI (fun τ6 r7 h8 => x_if_eq (tgt := 89) dX2_readToken_79 (by decide) (fun c9 => x_iload_n dX2_readToken_89 rfl <|
 x_callS (As := [.int r3]) ok_X2_isDigit ml_X2_128 (okM (by decide)) dX2_readToken_90 rfl rfl (Nat.le_of_ble_eq_true rfl) (h8.1 c9) <|
 (kI (fun τ10 r11 h12 => x_if_eq (tgt := 103) dX2_readToken_93 (by decide) (fun c13 => x_aload_n dX2_readToken_103 rfl <|
 x_dup dX2_readToken_104 rfl <|
 x_getf (v := .int (gi τ10 1103)) fl_X2_25 rfl rfl rfl dX2_readToken_105 <|
 x_iconst dX2_readToken_108 ic_1 <|
 x_iadd dX2_readToken_109 <|
 x_puti fp_X2_25 rfl rfl dX2_readToken_110 <|
 x_aload_n dX2_readToken_113 rfl <|
 x_iload_n dX2_readToken_114 rfl <|
 x_bipush dX2_readToken_115 bp_59 <|
 x_icmp_ne (tgt := 124) dX2_readToken_117 (by decide) (fun c14 => x_iconst dX2_readToken_124 ic_4 <|
 x_puti fp_X2_29 rfl rfl dX2_readToken_125 <|
 x_return rfl dX2_readToken_128 ⟨rfl, ((h12.1 c13).1 c14)⟩) (fun c14 => x_iconst dX2_readToken_120 ic_3 <|
 x_goto (tgt := 125) dX2_readToken_121 (by decide) <|
 x_puti fp_X2_29 rfl rfl dX2_readToken_125 <|
 x_return rfl dX2_readToken_128 ⟨rfl, ((h12.1 c13).2 c14)⟩)) (fun c13 => x_aload_n dX2_readToken_96 rfl <|
 x_callV (b := 11) (As := []) ok_X2_readDigits ml_X2_131 (okM (by decide)) dX2_readToken_97 rfl rfl (Nat.le_of_ble_eq_true rfl) rfl rfl rfl (h12.2 c13) <|
 (kV (fun τ15 h16 => x_goto (tgt := 128) dX2_readToken_100 (by decide) <|
 x_return rfl dX2_readToken_128 ⟨rfl, h16⟩)))))) (fun c9 => x_aload_n dX2_readToken_82 rfl <|
 x_callV (b := 11) (As := []) ok_X2_readWord ml_X2_125 (okM (by decide)) dX2_readToken_83 rfl rfl (Nat.le_of_ble_eq_true rfl) rfl rfl rfl (h8.2 c9) <|
 (kV (fun τ17 h18 => x_goto (tgt := 128) dX2_readToken_86 (by decide) <|
 x_return rfl dX2_readToken_128 ⟨rfl, h18⟩)))))) (fun c5 => x_aload_n dX2_readToken_67 rfl <|
 x_iconst dX2_readToken_68 ic_0 <|
 x_puti fp_X2_29 rfl rfl dX2_readToken_69 <|
 x_goto (tgt := 128) dX2_readToken_72 (by decide) <|
 x_return rfl dX2_readToken_128 ⟨rfl, (h4.2 c5)⟩)))) (fun c1 => x_aload_n dX2_readToken_14 rfl <|
 x_getf (v := .ref 1) fl_X2_38 rfl rfl rfl dX2_readToken_15 <|
 x_aload_n dX2_readToken_18 rfl <|
 x_getf (v := .int (gi σ 1103)) fl_X2_25 rfl rfl rfl dX2_readToken_19 <|
 x_callV (b := 1) (As := [.int (gi σ 1103)]) ok_X4_byteAt ml_X2_111 (okM (by decide)) dX2_readToken_22 rfl rfl (Nat.le_of_ble_eq_true rfl) rfl rfl rfl (h.2 c1) <|
 (kI (fun τ19 r20 h21 => x_bipush dX2_readToken_25 bp_32 <|
 x_icmp_ne (tgt := 43) dX2_readToken_27 (by decide) (fun c22 => x_aload_n dX2_readToken_43 rfl <|
 x_aload_n dX2_readToken_44 rfl <|
 x_getf (v := .int (gi τ19 1103)) fl_X2_25 rfl rfl rfl dX2_readToken_45 <|
 x_puti fp_X2_35 rfl rfl dX2_readToken_48 <|
 x_aload_n dX2_readToken_51 rfl <|
 x_getf (v := .ref 1) fl_X2_38 rfl rfl rfl dX2_readToken_52 <|
 x_aload_n dX2_readToken_55 rfl <|
 x_getf (v := .int (gi τ19 1103)) fl_X2_25 rfl rfl rfl dX2_readToken_56 <|
 x_callV (b := 1) (As := [.int (gi τ19 1103)]) ok_X4_byteAt ml_X2_111 (okM (by decide)) dX2_readToken_59 rfl rfl (Nat.le_of_ble_eq_true rfl) rfl rfl rfl (h21.1 c22) <|
 (kI (fun τ23 r24 h25 => x_istore_n (L2 := [some (.ref 11), some (.int r24)]) dX2_readToken_62 rfl (Nat.le_of_ble_eq_true rfl) <|
 x_iload_n dX2_readToken_63 rfl <|
 x_if_ge (tgt := 75) dX2_readToken_64 (by decide) (fun c26 => x_iload_n dX2_readToken_75 rfl <|
 x_callS (As := [.int r24]) ok_X2_isLetter ml_X2_122 (okM (by decide)) dX2_readToken_76 rfl rfl (Nat.le_of_ble_eq_true rfl) (h25.1 c26) <|
 (kI (fun τ27 r28 h29 => x_if_eq (tgt := 89) dX2_readToken_79 (by decide) (fun c30 => x_iload_n dX2_readToken_89 rfl <|
 x_callS (As := [.int r24]) ok_X2_isDigit ml_X2_128 (okM (by decide)) dX2_readToken_90 rfl rfl (Nat.le_of_ble_eq_true rfl) (h29.1 c30) <|
 (kI (fun τ31 r32 h33 => x_if_eq (tgt := 103) dX2_readToken_93 (by decide) (fun c34 => x_aload_n dX2_readToken_103 rfl <|
 x_dup dX2_readToken_104 rfl <|
 x_getf (v := .int (gi τ31 1103)) fl_X2_25 rfl rfl rfl dX2_readToken_105 <|
 x_iconst dX2_readToken_108 ic_1 <|
 x_iadd dX2_readToken_109 <|
 x_puti fp_X2_25 rfl rfl dX2_readToken_110 <|
 x_aload_n dX2_readToken_113 rfl <|
 x_iload_n dX2_readToken_114 rfl <|
 x_bipush dX2_readToken_115 bp_59 <|
 x_icmp_ne (tgt := 124) dX2_readToken_117 (by decide) (fun c35 => x_iconst dX2_readToken_124 ic_4 <|
 x_puti fp_X2_29 rfl rfl dX2_readToken_125 <|
 x_return rfl dX2_readToken_128 ⟨rfl, ((h33.1 c34).1 c35)⟩) (fun c35 => x_iconst dX2_readToken_120 ic_3 <|
 x_goto (tgt := 125) dX2_readToken_121 (by decide) <|
 x_puti fp_X2_29 rfl rfl dX2_readToken_125 <|
 x_return rfl dX2_readToken_128 ⟨rfl, ((h33.1 c34).2 c35)⟩)) (fun c34 => x_aload_n dX2_readToken_96 rfl <|
 x_callV (b := 11) (As := []) ok_X2_readDigits ml_X2_131 (okM (by decide)) dX2_readToken_97 rfl rfl (Nat.le_of_ble_eq_true rfl) rfl rfl rfl (h33.2 c34) <|
 (kV (fun τ36 h37 => x_goto (tgt := 128) dX2_readToken_100 (by decide) <|
 x_return rfl dX2_readToken_128 ⟨rfl, h37⟩)))))) (fun c30 => x_aload_n dX2_readToken_82 rfl <|
 x_callV (b := 11) (As := []) ok_X2_readWord ml_X2_125 (okM (by decide)) dX2_readToken_83 rfl rfl (Nat.le_of_ble_eq_true rfl) rfl rfl rfl (h29.2 c30) <|
 (kV (fun τ38 h39 => x_goto (tgt := 128) dX2_readToken_86 (by decide) <|
 x_return rfl dX2_readToken_128 ⟨rfl, h39⟩)))))) (fun c26 => x_aload_n dX2_readToken_67 rfl <|
 x_iconst dX2_readToken_68 ic_0 <|
 x_puti fp_X2_29 rfl rfl dX2_readToken_69 <|
 x_goto (tgt := 128) dX2_readToken_72 (by decide) <|
 x_return rfl dX2_readToken_128 ⟨rfl, (h25.2 c26)⟩)))) (fun c22 => x_aload_n dX2_readToken_30 rfl <|
 x_dup dX2_readToken_31 rfl <|
 x_getf (v := .int (gi τ19 1103)) fl_X2_25 rfl rfl rfl dX2_readToken_32 <|
 x_iconst dX2_readToken_35 ic_1 <|
 x_iadd dX2_readToken_36 <|
 x_puti fp_X2_25 rfl rfl dX2_readToken_37 <|
 x_goto (tgt := 0) dX2_readToken_40 (by decide) <|
 (h21.2 c22)))))
set_option maxRecDepth 100000 in
set_option maxHeartbeats 4000000 in
theorem M_X2_readToken_11 {E : EV} {Q : Sg → Prop} {σ : Sg} (h : K_X2_readToken_11_0 E Q σ) : MetV E mi_X2_readToken [.ref 11] σ Q :=
 met_of (L := [some (.ref 11), none]) pn_X2 rfl (Nat.le_of_ble_eq_true rfl) <|
 h
def K_X2_isWord_11_900_20 (E : EV) (Q : Sg → Int32 → Prop) (σ : Sg) (v2 : Int32) : Prop := J E mi_X2_isWord (tgM E mi_X2_isWord (qI Q)) 20 [some (.ref 11), some (.ref 900), some (.int v2)] [] σ
set_option maxRecDepth 100000 in
set_option maxHeartbeats 4000000 in
theorem B_X2_isWord_11_900_20 {E : EV} {Q : Sg → Int32 → Prop} {σ : Sg} {v2 : Int32} (h : MetI E mi_J0_length_8abf5 [.ref 900] σ (fun τ1 r2 => ((r2 ≤ v2) → Q τ1 (1 : Int32)) ∧ ((¬ r2 ≤ v2) → MetI E mi_X4_byteAt [.ref 1, .int ((gi τ1 1106) + v2)] τ1 (fun τ5 r6 => MetI E mi_J0_charAt_5068e [.ref 900, .int v2] τ5 (fun τ8 r9 => ((r6 = r9) → K_X2_isWord_11_900_20 E Q τ8 (v2 + 1)) ∧ ((¬ r6 = r9) → Q τ8 (0 : Int32))))))) : K_X2_isWord_11_900_20 E Q σ v2 :=
 x_iload_n dX2_isWord_20 rfl <|
 x_aload_n dX2_isWord_21 rfl <|
 x_callT (i := 0) (As := []) ok_J0_length_8abf5 rfl ml_X2_106 (okM (by decide)) dX2_isWord_22 (by decide) rfl rfl (Nat.le_of_ble_eq_true rfl) h <|
 (kI (fun τ1 r2 h3 => x_icmp_ge (tgt := 57) dX2_isWord_25 (by decide) (fun c4 => x_iconst dX2_isWord_57 ic_1 <|
 x_zreturn rfl (Or.inr rfl) dX2_isWord_58 ⟨_, rfl, (h3.1 c4)⟩) (fun c4 => x_aload_n dX2_isWord_28 rfl <|
 x_getf (v := .ref 1) fl_X2_38 rfl rfl rfl dX2_isWord_29 <|
 x_aload_n dX2_isWord_32 rfl <|
 x_getf (v := .int (gi τ1 1106)) fl_X2_35 rfl rfl rfl dX2_isWord_33 <|
 x_iload_n dX2_isWord_36 rfl <|
 x_iadd dX2_isWord_37 <|
 x_callV (b := 1) (As := [.int ((gi τ1 1106) + v2)]) ok_X4_byteAt ml_X2_111 (okM (by decide)) dX2_isWord_38 rfl rfl (Nat.le_of_ble_eq_true rfl) rfl rfl rfl (h3.2 c4) <|
 (kI (fun τ5 r6 h7 => x_aload_n dX2_isWord_41 rfl <|
 x_iload_n dX2_isWord_42 rfl <|
 x_callT (i := 0) (As := [.int v2]) ok_J0_charAt_5068e rfl ml_X2_117 (okM (by decide)) dX2_isWord_43 (by decide) rfl rfl (Nat.le_of_ble_eq_true rfl) h7 <|
 (kI (fun τ8 r9 h10 => x_icmp_eq (tgt := 51) dX2_isWord_46 (by decide) (fun c11 => x_iinc (v := (v2 + 1)) (L2 := [some (.ref 11), some (.ref 900), some (.int (v2 + 1))]) dX2_isWord_51 rfl (by rw [show Int32.ofInt (1) = 1 by decide]) rfl (Nat.le_of_ble_eq_true rfl) <|
 x_goto (tgt := 20) dX2_isWord_54 (by decide) <|
 (h10.1 c11)) (fun c11 => x_iconst dX2_isWord_49 ic_0 <|
 x_zreturn rfl (Or.inl rfl) dX2_isWord_50 ⟨_, rfl, (h10.2 c11)⟩))))))))
set_option maxRecDepth 100000 in
set_option maxHeartbeats 4000000 in
theorem M_X2_isWord_11_900 {E : EV} {Q : Sg → Int32 → Prop} {σ : Sg} (h : MetI E mi_J0_length_8abf5 [.ref 900] σ (fun τ1 r2 => ((((gi σ 1103) - (gi σ 1106)) = r2) → K_X2_isWord_11_900_20 E Q τ1 (0 : Int32)) ∧ ((¬ ((gi σ 1103) - (gi σ 1106)) = r2) → Q τ1 (0 : Int32)))) : MetI E mi_X2_isWord [.ref 11, .ref 900] σ Q :=
 met_of (L := [some (.ref 11), some (.ref 900), none]) pn_X2 rfl (Nat.le_of_ble_eq_true rfl) <|
 x_aload_n dX2_isWord_0 rfl <|
 x_getf (v := .int (gi σ 1103)) fl_X2_25 rfl rfl rfl dX2_isWord_1 <|
 x_aload_n dX2_isWord_4 rfl <|
 x_getf (v := .int (gi σ 1106)) fl_X2_35 rfl rfl rfl dX2_isWord_5 <|
 x_isub dX2_isWord_8 <|
 x_aload_n dX2_isWord_9 rfl <|
 x_callT (i := 0) (As := []) ok_J0_length_8abf5 rfl ml_X2_106 (okM (by decide)) dX2_isWord_10 (by decide) rfl rfl (Nat.le_of_ble_eq_true rfl) h <|
 (kI (fun τ1 r2 h3 => x_icmp_eq (tgt := 18) dX2_isWord_13 (by decide) (fun c4 => x_iconst dX2_isWord_18 ic_0 <|
 x_istore_n (L2 := [some (.ref 11), some (.ref 900), some (.int (0 : Int32))]) dX2_isWord_19 rfl (Nat.le_of_ble_eq_true rfl) <|
 (h3.1 c4)) (fun c4 => x_iconst dX2_isWord_16 ic_0 <|
 x_zreturn rfl (Or.inl rfl) dX2_isWord_17 ⟨_, rfl, (h3.2 c4)⟩)))
def K_X2_isWord_11_901_20 (E : EV) (Q : Sg → Int32 → Prop) (σ : Sg) (v2 : Int32) : Prop := J E mi_X2_isWord (tgM E mi_X2_isWord (qI Q)) 20 [some (.ref 11), some (.ref 901), some (.int v2)] [] σ
set_option maxRecDepth 100000 in
set_option maxHeartbeats 4000000 in
theorem B_X2_isWord_11_901_20 {E : EV} {Q : Sg → Int32 → Prop} {σ : Sg} {v2 : Int32} (h : MetI E mi_J0_length_8abf5 [.ref 901] σ (fun τ1 r2 => ((r2 ≤ v2) → Q τ1 (1 : Int32)) ∧ ((¬ r2 ≤ v2) → MetI E mi_X4_byteAt [.ref 1, .int ((gi τ1 1106) + v2)] τ1 (fun τ5 r6 => MetI E mi_J0_charAt_5068e [.ref 901, .int v2] τ5 (fun τ8 r9 => ((r6 = r9) → K_X2_isWord_11_901_20 E Q τ8 (v2 + 1)) ∧ ((¬ r6 = r9) → Q τ8 (0 : Int32))))))) : K_X2_isWord_11_901_20 E Q σ v2 :=
 x_iload_n dX2_isWord_20 rfl <|
 x_aload_n dX2_isWord_21 rfl <|
 x_callT (i := 1) (As := []) ok_J0_length_8abf5 rfl ml_X2_106 (okM (by decide)) dX2_isWord_22 (by decide) rfl rfl (Nat.le_of_ble_eq_true rfl) h <|
 (kI (fun τ1 r2 h3 => x_icmp_ge (tgt := 57) dX2_isWord_25 (by decide) (fun c4 => x_iconst dX2_isWord_57 ic_1 <|
 x_zreturn rfl (Or.inr rfl) dX2_isWord_58 ⟨_, rfl, (h3.1 c4)⟩) (fun c4 => x_aload_n dX2_isWord_28 rfl <|
 x_getf (v := .ref 1) fl_X2_38 rfl rfl rfl dX2_isWord_29 <|
 x_aload_n dX2_isWord_32 rfl <|
 x_getf (v := .int (gi τ1 1106)) fl_X2_35 rfl rfl rfl dX2_isWord_33 <|
 x_iload_n dX2_isWord_36 rfl <|
 x_iadd dX2_isWord_37 <|
 x_callV (b := 1) (As := [.int ((gi τ1 1106) + v2)]) ok_X4_byteAt ml_X2_111 (okM (by decide)) dX2_isWord_38 rfl rfl (Nat.le_of_ble_eq_true rfl) rfl rfl rfl (h3.2 c4) <|
 (kI (fun τ5 r6 h7 => x_aload_n dX2_isWord_41 rfl <|
 x_iload_n dX2_isWord_42 rfl <|
 x_callT (i := 1) (As := [.int v2]) ok_J0_charAt_5068e rfl ml_X2_117 (okM (by decide)) dX2_isWord_43 (by decide) rfl rfl (Nat.le_of_ble_eq_true rfl) h7 <|
 (kI (fun τ8 r9 h10 => x_icmp_eq (tgt := 51) dX2_isWord_46 (by decide) (fun c11 => x_iinc (v := (v2 + 1)) (L2 := [some (.ref 11), some (.ref 901), some (.int (v2 + 1))]) dX2_isWord_51 rfl (by rw [show Int32.ofInt (1) = 1 by decide]) rfl (Nat.le_of_ble_eq_true rfl) <|
 x_goto (tgt := 20) dX2_isWord_54 (by decide) <|
 (h10.1 c11)) (fun c11 => x_iconst dX2_isWord_49 ic_0 <|
 x_zreturn rfl (Or.inl rfl) dX2_isWord_50 ⟨_, rfl, (h10.2 c11)⟩))))))))
set_option maxRecDepth 100000 in
set_option maxHeartbeats 4000000 in
theorem M_X2_isWord_11_901 {E : EV} {Q : Sg → Int32 → Prop} {σ : Sg} (h : MetI E mi_J0_length_8abf5 [.ref 901] σ (fun τ1 r2 => ((((gi σ 1103) - (gi σ 1106)) = r2) → K_X2_isWord_11_901_20 E Q τ1 (0 : Int32)) ∧ ((¬ ((gi σ 1103) - (gi σ 1106)) = r2) → Q τ1 (0 : Int32)))) : MetI E mi_X2_isWord [.ref 11, .ref 901] σ Q :=
 met_of (L := [some (.ref 11), some (.ref 901), none]) pn_X2 rfl (Nat.le_of_ble_eq_true rfl) <|
 x_aload_n dX2_isWord_0 rfl <|
 x_getf (v := .int (gi σ 1103)) fl_X2_25 rfl rfl rfl dX2_isWord_1 <|
 x_aload_n dX2_isWord_4 rfl <|
 x_getf (v := .int (gi σ 1106)) fl_X2_35 rfl rfl rfl dX2_isWord_5 <|
 x_isub dX2_isWord_8 <|
 x_aload_n dX2_isWord_9 rfl <|
 x_callT (i := 1) (As := []) ok_J0_length_8abf5 rfl ml_X2_106 (okM (by decide)) dX2_isWord_10 (by decide) rfl rfl (Nat.le_of_ble_eq_true rfl) h <|
 (kI (fun τ1 r2 h3 => x_icmp_eq (tgt := 18) dX2_isWord_13 (by decide) (fun c4 => x_iconst dX2_isWord_18 ic_0 <|
 x_istore_n (L2 := [some (.ref 11), some (.ref 901), some (.int (0 : Int32))]) dX2_isWord_19 rfl (Nat.le_of_ble_eq_true rfl) <|
 (h3.1 c4)) (fun c4 => x_iconst dX2_isWord_16 ic_0 <|
 x_zreturn rfl (Or.inl rfl) dX2_isWord_17 ⟨_, rfl, (h3.2 c4)⟩)))
def K_X2_isWord_11_902_20 (E : EV) (Q : Sg → Int32 → Prop) (σ : Sg) (v2 : Int32) : Prop := J E mi_X2_isWord (tgM E mi_X2_isWord (qI Q)) 20 [some (.ref 11), some (.ref 902), some (.int v2)] [] σ
set_option maxRecDepth 100000 in
set_option maxHeartbeats 4000000 in
theorem B_X2_isWord_11_902_20 {E : EV} {Q : Sg → Int32 → Prop} {σ : Sg} {v2 : Int32} (h : MetI E mi_J0_length_8abf5 [.ref 902] σ (fun τ1 r2 => ((r2 ≤ v2) → Q τ1 (1 : Int32)) ∧ ((¬ r2 ≤ v2) → MetI E mi_X4_byteAt [.ref 1, .int ((gi τ1 1106) + v2)] τ1 (fun τ5 r6 => MetI E mi_J0_charAt_5068e [.ref 902, .int v2] τ5 (fun τ8 r9 => ((r6 = r9) → K_X2_isWord_11_902_20 E Q τ8 (v2 + 1)) ∧ ((¬ r6 = r9) → Q τ8 (0 : Int32))))))) : K_X2_isWord_11_902_20 E Q σ v2 :=
 x_iload_n dX2_isWord_20 rfl <|
 x_aload_n dX2_isWord_21 rfl <|
 x_callT (i := 2) (As := []) ok_J0_length_8abf5 rfl ml_X2_106 (okM (by decide)) dX2_isWord_22 (by decide) rfl rfl (Nat.le_of_ble_eq_true rfl) h <|
 (kI (fun τ1 r2 h3 => x_icmp_ge (tgt := 57) dX2_isWord_25 (by decide) (fun c4 => x_iconst dX2_isWord_57 ic_1 <|
 x_zreturn rfl (Or.inr rfl) dX2_isWord_58 ⟨_, rfl, (h3.1 c4)⟩) (fun c4 => x_aload_n dX2_isWord_28 rfl <|
 x_getf (v := .ref 1) fl_X2_38 rfl rfl rfl dX2_isWord_29 <|
 x_aload_n dX2_isWord_32 rfl <|
 x_getf (v := .int (gi τ1 1106)) fl_X2_35 rfl rfl rfl dX2_isWord_33 <|
 x_iload_n dX2_isWord_36 rfl <|
 x_iadd dX2_isWord_37 <|
 x_callV (b := 1) (As := [.int ((gi τ1 1106) + v2)]) ok_X4_byteAt ml_X2_111 (okM (by decide)) dX2_isWord_38 rfl rfl (Nat.le_of_ble_eq_true rfl) rfl rfl rfl (h3.2 c4) <|
 (kI (fun τ5 r6 h7 => x_aload_n dX2_isWord_41 rfl <|
 x_iload_n dX2_isWord_42 rfl <|
 x_callT (i := 2) (As := [.int v2]) ok_J0_charAt_5068e rfl ml_X2_117 (okM (by decide)) dX2_isWord_43 (by decide) rfl rfl (Nat.le_of_ble_eq_true rfl) h7 <|
 (kI (fun τ8 r9 h10 => x_icmp_eq (tgt := 51) dX2_isWord_46 (by decide) (fun c11 => x_iinc (v := (v2 + 1)) (L2 := [some (.ref 11), some (.ref 902), some (.int (v2 + 1))]) dX2_isWord_51 rfl (by rw [show Int32.ofInt (1) = 1 by decide]) rfl (Nat.le_of_ble_eq_true rfl) <|
 x_goto (tgt := 20) dX2_isWord_54 (by decide) <|
 (h10.1 c11)) (fun c11 => x_iconst dX2_isWord_49 ic_0 <|
 x_zreturn rfl (Or.inl rfl) dX2_isWord_50 ⟨_, rfl, (h10.2 c11)⟩))))))))
set_option maxRecDepth 100000 in
set_option maxHeartbeats 4000000 in
theorem M_X2_isWord_11_902 {E : EV} {Q : Sg → Int32 → Prop} {σ : Sg} (h : MetI E mi_J0_length_8abf5 [.ref 902] σ (fun τ1 r2 => ((((gi σ 1103) - (gi σ 1106)) = r2) → K_X2_isWord_11_902_20 E Q τ1 (0 : Int32)) ∧ ((¬ ((gi σ 1103) - (gi σ 1106)) = r2) → Q τ1 (0 : Int32)))) : MetI E mi_X2_isWord [.ref 11, .ref 902] σ Q :=
 met_of (L := [some (.ref 11), some (.ref 902), none]) pn_X2 rfl (Nat.le_of_ble_eq_true rfl) <|
 x_aload_n dX2_isWord_0 rfl <|
 x_getf (v := .int (gi σ 1103)) fl_X2_25 rfl rfl rfl dX2_isWord_1 <|
 x_aload_n dX2_isWord_4 rfl <|
 x_getf (v := .int (gi σ 1106)) fl_X2_35 rfl rfl rfl dX2_isWord_5 <|
 x_isub dX2_isWord_8 <|
 x_aload_n dX2_isWord_9 rfl <|
 x_callT (i := 2) (As := []) ok_J0_length_8abf5 rfl ml_X2_106 (okM (by decide)) dX2_isWord_10 (by decide) rfl rfl (Nat.le_of_ble_eq_true rfl) h <|
 (kI (fun τ1 r2 h3 => x_icmp_eq (tgt := 18) dX2_isWord_13 (by decide) (fun c4 => x_iconst dX2_isWord_18 ic_0 <|
 x_istore_n (L2 := [some (.ref 11), some (.ref 902), some (.int (0 : Int32))]) dX2_isWord_19 rfl (Nat.le_of_ble_eq_true rfl) <|
 (h3.1 c4)) (fun c4 => x_iconst dX2_isWord_16 ic_0 <|
 x_zreturn rfl (Or.inl rfl) dX2_isWord_17 ⟨_, rfl, (h3.2 c4)⟩)))
def K_X2_isWord_11_903_20 (E : EV) (Q : Sg → Int32 → Prop) (σ : Sg) (v2 : Int32) : Prop := J E mi_X2_isWord (tgM E mi_X2_isWord (qI Q)) 20 [some (.ref 11), some (.ref 903), some (.int v2)] [] σ
set_option maxRecDepth 100000 in
set_option maxHeartbeats 4000000 in
theorem B_X2_isWord_11_903_20 {E : EV} {Q : Sg → Int32 → Prop} {σ : Sg} {v2 : Int32} (h : MetI E mi_J0_length_8abf5 [.ref 903] σ (fun τ1 r2 => ((r2 ≤ v2) → Q τ1 (1 : Int32)) ∧ ((¬ r2 ≤ v2) → MetI E mi_X4_byteAt [.ref 1, .int ((gi τ1 1106) + v2)] τ1 (fun τ5 r6 => MetI E mi_J0_charAt_5068e [.ref 903, .int v2] τ5 (fun τ8 r9 => ((r6 = r9) → K_X2_isWord_11_903_20 E Q τ8 (v2 + 1)) ∧ ((¬ r6 = r9) → Q τ8 (0 : Int32))))))) : K_X2_isWord_11_903_20 E Q σ v2 :=
 x_iload_n dX2_isWord_20 rfl <|
 x_aload_n dX2_isWord_21 rfl <|
 x_callT (i := 3) (As := []) ok_J0_length_8abf5 rfl ml_X2_106 (okM (by decide)) dX2_isWord_22 (by decide) rfl rfl (Nat.le_of_ble_eq_true rfl) h <|
 (kI (fun τ1 r2 h3 => x_icmp_ge (tgt := 57) dX2_isWord_25 (by decide) (fun c4 => x_iconst dX2_isWord_57 ic_1 <|
 x_zreturn rfl (Or.inr rfl) dX2_isWord_58 ⟨_, rfl, (h3.1 c4)⟩) (fun c4 => x_aload_n dX2_isWord_28 rfl <|
 x_getf (v := .ref 1) fl_X2_38 rfl rfl rfl dX2_isWord_29 <|
 x_aload_n dX2_isWord_32 rfl <|
 x_getf (v := .int (gi τ1 1106)) fl_X2_35 rfl rfl rfl dX2_isWord_33 <|
 x_iload_n dX2_isWord_36 rfl <|
 x_iadd dX2_isWord_37 <|
 x_callV (b := 1) (As := [.int ((gi τ1 1106) + v2)]) ok_X4_byteAt ml_X2_111 (okM (by decide)) dX2_isWord_38 rfl rfl (Nat.le_of_ble_eq_true rfl) rfl rfl rfl (h3.2 c4) <|
 (kI (fun τ5 r6 h7 => x_aload_n dX2_isWord_41 rfl <|
 x_iload_n dX2_isWord_42 rfl <|
 x_callT (i := 3) (As := [.int v2]) ok_J0_charAt_5068e rfl ml_X2_117 (okM (by decide)) dX2_isWord_43 (by decide) rfl rfl (Nat.le_of_ble_eq_true rfl) h7 <|
 (kI (fun τ8 r9 h10 => x_icmp_eq (tgt := 51) dX2_isWord_46 (by decide) (fun c11 => x_iinc (v := (v2 + 1)) (L2 := [some (.ref 11), some (.ref 903), some (.int (v2 + 1))]) dX2_isWord_51 rfl (by rw [show Int32.ofInt (1) = 1 by decide]) rfl (Nat.le_of_ble_eq_true rfl) <|
 x_goto (tgt := 20) dX2_isWord_54 (by decide) <|
 (h10.1 c11)) (fun c11 => x_iconst dX2_isWord_49 ic_0 <|
 x_zreturn rfl (Or.inl rfl) dX2_isWord_50 ⟨_, rfl, (h10.2 c11)⟩))))))))
set_option maxRecDepth 100000 in
set_option maxHeartbeats 4000000 in
theorem M_X2_isWord_11_903 {E : EV} {Q : Sg → Int32 → Prop} {σ : Sg} (h : MetI E mi_J0_length_8abf5 [.ref 903] σ (fun τ1 r2 => ((((gi σ 1103) - (gi σ 1106)) = r2) → K_X2_isWord_11_903_20 E Q τ1 (0 : Int32)) ∧ ((¬ ((gi σ 1103) - (gi σ 1106)) = r2) → Q τ1 (0 : Int32)))) : MetI E mi_X2_isWord [.ref 11, .ref 903] σ Q :=
 met_of (L := [some (.ref 11), some (.ref 903), none]) pn_X2 rfl (Nat.le_of_ble_eq_true rfl) <|
 x_aload_n dX2_isWord_0 rfl <|
 x_getf (v := .int (gi σ 1103)) fl_X2_25 rfl rfl rfl dX2_isWord_1 <|
 x_aload_n dX2_isWord_4 rfl <|
 x_getf (v := .int (gi σ 1106)) fl_X2_35 rfl rfl rfl dX2_isWord_5 <|
 x_isub dX2_isWord_8 <|
 x_aload_n dX2_isWord_9 rfl <|
 x_callT (i := 3) (As := []) ok_J0_length_8abf5 rfl ml_X2_106 (okM (by decide)) dX2_isWord_10 (by decide) rfl rfl (Nat.le_of_ble_eq_true rfl) h <|
 (kI (fun τ1 r2 h3 => x_icmp_eq (tgt := 18) dX2_isWord_13 (by decide) (fun c4 => x_iconst dX2_isWord_18 ic_0 <|
 x_istore_n (L2 := [some (.ref 11), some (.ref 903), some (.int (0 : Int32))]) dX2_isWord_19 rfl (Nat.le_of_ble_eq_true rfl) <|
 (h3.1 c4)) (fun c4 => x_iconst dX2_isWord_16 ic_0 <|
 x_zreturn rfl (Or.inl rfl) dX2_isWord_17 ⟨_, rfl, (h3.2 c4)⟩)))
def K_X2_isWord_11_904_20 (E : EV) (Q : Sg → Int32 → Prop) (σ : Sg) (v2 : Int32) : Prop := J E mi_X2_isWord (tgM E mi_X2_isWord (qI Q)) 20 [some (.ref 11), some (.ref 904), some (.int v2)] [] σ
set_option maxRecDepth 100000 in
set_option maxHeartbeats 4000000 in
theorem B_X2_isWord_11_904_20 {E : EV} {Q : Sg → Int32 → Prop} {σ : Sg} {v2 : Int32} (h : MetI E mi_J0_length_8abf5 [.ref 904] σ (fun τ1 r2 => ((r2 ≤ v2) → Q τ1 (1 : Int32)) ∧ ((¬ r2 ≤ v2) → MetI E mi_X4_byteAt [.ref 1, .int ((gi τ1 1106) + v2)] τ1 (fun τ5 r6 => MetI E mi_J0_charAt_5068e [.ref 904, .int v2] τ5 (fun τ8 r9 => ((r6 = r9) → K_X2_isWord_11_904_20 E Q τ8 (v2 + 1)) ∧ ((¬ r6 = r9) → Q τ8 (0 : Int32))))))) : K_X2_isWord_11_904_20 E Q σ v2 :=
 x_iload_n dX2_isWord_20 rfl <|
 x_aload_n dX2_isWord_21 rfl <|
 x_callT (i := 4) (As := []) ok_J0_length_8abf5 rfl ml_X2_106 (okM (by decide)) dX2_isWord_22 (by decide) rfl rfl (Nat.le_of_ble_eq_true rfl) h <|
 (kI (fun τ1 r2 h3 => x_icmp_ge (tgt := 57) dX2_isWord_25 (by decide) (fun c4 => x_iconst dX2_isWord_57 ic_1 <|
 x_zreturn rfl (Or.inr rfl) dX2_isWord_58 ⟨_, rfl, (h3.1 c4)⟩) (fun c4 => x_aload_n dX2_isWord_28 rfl <|
 x_getf (v := .ref 1) fl_X2_38 rfl rfl rfl dX2_isWord_29 <|
 x_aload_n dX2_isWord_32 rfl <|
 x_getf (v := .int (gi τ1 1106)) fl_X2_35 rfl rfl rfl dX2_isWord_33 <|
 x_iload_n dX2_isWord_36 rfl <|
 x_iadd dX2_isWord_37 <|
 x_callV (b := 1) (As := [.int ((gi τ1 1106) + v2)]) ok_X4_byteAt ml_X2_111 (okM (by decide)) dX2_isWord_38 rfl rfl (Nat.le_of_ble_eq_true rfl) rfl rfl rfl (h3.2 c4) <|
 (kI (fun τ5 r6 h7 => x_aload_n dX2_isWord_41 rfl <|
 x_iload_n dX2_isWord_42 rfl <|
 x_callT (i := 4) (As := [.int v2]) ok_J0_charAt_5068e rfl ml_X2_117 (okM (by decide)) dX2_isWord_43 (by decide) rfl rfl (Nat.le_of_ble_eq_true rfl) h7 <|
 (kI (fun τ8 r9 h10 => x_icmp_eq (tgt := 51) dX2_isWord_46 (by decide) (fun c11 => x_iinc (v := (v2 + 1)) (L2 := [some (.ref 11), some (.ref 904), some (.int (v2 + 1))]) dX2_isWord_51 rfl (by rw [show Int32.ofInt (1) = 1 by decide]) rfl (Nat.le_of_ble_eq_true rfl) <|
 x_goto (tgt := 20) dX2_isWord_54 (by decide) <|
 (h10.1 c11)) (fun c11 => x_iconst dX2_isWord_49 ic_0 <|
 x_zreturn rfl (Or.inl rfl) dX2_isWord_50 ⟨_, rfl, (h10.2 c11)⟩))))))))
set_option maxRecDepth 100000 in
set_option maxHeartbeats 4000000 in
theorem M_X2_isWord_11_904 {E : EV} {Q : Sg → Int32 → Prop} {σ : Sg} (h : MetI E mi_J0_length_8abf5 [.ref 904] σ (fun τ1 r2 => ((((gi σ 1103) - (gi σ 1106)) = r2) → K_X2_isWord_11_904_20 E Q τ1 (0 : Int32)) ∧ ((¬ ((gi σ 1103) - (gi σ 1106)) = r2) → Q τ1 (0 : Int32)))) : MetI E mi_X2_isWord [.ref 11, .ref 904] σ Q :=
 met_of (L := [some (.ref 11), some (.ref 904), none]) pn_X2 rfl (Nat.le_of_ble_eq_true rfl) <|
 x_aload_n dX2_isWord_0 rfl <|
 x_getf (v := .int (gi σ 1103)) fl_X2_25 rfl rfl rfl dX2_isWord_1 <|
 x_aload_n dX2_isWord_4 rfl <|
 x_getf (v := .int (gi σ 1106)) fl_X2_35 rfl rfl rfl dX2_isWord_5 <|
 x_isub dX2_isWord_8 <|
 x_aload_n dX2_isWord_9 rfl <|
 x_callT (i := 4) (As := []) ok_J0_length_8abf5 rfl ml_X2_106 (okM (by decide)) dX2_isWord_10 (by decide) rfl rfl (Nat.le_of_ble_eq_true rfl) h <|
 (kI (fun τ1 r2 h3 => x_icmp_eq (tgt := 18) dX2_isWord_13 (by decide) (fun c4 => x_iconst dX2_isWord_18 ic_0 <|
 x_istore_n (L2 := [some (.ref 11), some (.ref 904), some (.int (0 : Int32))]) dX2_isWord_19 rfl (Nat.le_of_ble_eq_true rfl) <|
 (h3.1 c4)) (fun c4 => x_iconst dX2_isWord_16 ic_0 <|
 x_zreturn rfl (Or.inl rfl) dX2_isWord_17 ⟨_, rfl, (h3.2 c4)⟩)))
def K_X2_isWord_11_905_20 (E : EV) (Q : Sg → Int32 → Prop) (σ : Sg) (v2 : Int32) : Prop := J E mi_X2_isWord (tgM E mi_X2_isWord (qI Q)) 20 [some (.ref 11), some (.ref 905), some (.int v2)] [] σ
set_option maxRecDepth 100000 in
set_option maxHeartbeats 4000000 in
theorem B_X2_isWord_11_905_20 {E : EV} {Q : Sg → Int32 → Prop} {σ : Sg} {v2 : Int32} (h : MetI E mi_J0_length_8abf5 [.ref 905] σ (fun τ1 r2 => ((r2 ≤ v2) → Q τ1 (1 : Int32)) ∧ ((¬ r2 ≤ v2) → MetI E mi_X4_byteAt [.ref 1, .int ((gi τ1 1106) + v2)] τ1 (fun τ5 r6 => MetI E mi_J0_charAt_5068e [.ref 905, .int v2] τ5 (fun τ8 r9 => ((r6 = r9) → K_X2_isWord_11_905_20 E Q τ8 (v2 + 1)) ∧ ((¬ r6 = r9) → Q τ8 (0 : Int32))))))) : K_X2_isWord_11_905_20 E Q σ v2 :=
 x_iload_n dX2_isWord_20 rfl <|
 x_aload_n dX2_isWord_21 rfl <|
 x_callT (i := 5) (As := []) ok_J0_length_8abf5 rfl ml_X2_106 (okM (by decide)) dX2_isWord_22 (by decide) rfl rfl (Nat.le_of_ble_eq_true rfl) h <|
 (kI (fun τ1 r2 h3 => x_icmp_ge (tgt := 57) dX2_isWord_25 (by decide) (fun c4 => x_iconst dX2_isWord_57 ic_1 <|
 x_zreturn rfl (Or.inr rfl) dX2_isWord_58 ⟨_, rfl, (h3.1 c4)⟩) (fun c4 => x_aload_n dX2_isWord_28 rfl <|
 x_getf (v := .ref 1) fl_X2_38 rfl rfl rfl dX2_isWord_29 <|
 x_aload_n dX2_isWord_32 rfl <|
 x_getf (v := .int (gi τ1 1106)) fl_X2_35 rfl rfl rfl dX2_isWord_33 <|
 x_iload_n dX2_isWord_36 rfl <|
 x_iadd dX2_isWord_37 <|
 x_callV (b := 1) (As := [.int ((gi τ1 1106) + v2)]) ok_X4_byteAt ml_X2_111 (okM (by decide)) dX2_isWord_38 rfl rfl (Nat.le_of_ble_eq_true rfl) rfl rfl rfl (h3.2 c4) <|
 (kI (fun τ5 r6 h7 => x_aload_n dX2_isWord_41 rfl <|
 x_iload_n dX2_isWord_42 rfl <|
 x_callT (i := 5) (As := [.int v2]) ok_J0_charAt_5068e rfl ml_X2_117 (okM (by decide)) dX2_isWord_43 (by decide) rfl rfl (Nat.le_of_ble_eq_true rfl) h7 <|
 (kI (fun τ8 r9 h10 => x_icmp_eq (tgt := 51) dX2_isWord_46 (by decide) (fun c11 => x_iinc (v := (v2 + 1)) (L2 := [some (.ref 11), some (.ref 905), some (.int (v2 + 1))]) dX2_isWord_51 rfl (by rw [show Int32.ofInt (1) = 1 by decide]) rfl (Nat.le_of_ble_eq_true rfl) <|
 x_goto (tgt := 20) dX2_isWord_54 (by decide) <|
 (h10.1 c11)) (fun c11 => x_iconst dX2_isWord_49 ic_0 <|
 x_zreturn rfl (Or.inl rfl) dX2_isWord_50 ⟨_, rfl, (h10.2 c11)⟩))))))))
set_option maxRecDepth 100000 in
set_option maxHeartbeats 4000000 in
theorem M_X2_isWord_11_905 {E : EV} {Q : Sg → Int32 → Prop} {σ : Sg} (h : MetI E mi_J0_length_8abf5 [.ref 905] σ (fun τ1 r2 => ((((gi σ 1103) - (gi σ 1106)) = r2) → K_X2_isWord_11_905_20 E Q τ1 (0 : Int32)) ∧ ((¬ ((gi σ 1103) - (gi σ 1106)) = r2) → Q τ1 (0 : Int32)))) : MetI E mi_X2_isWord [.ref 11, .ref 905] σ Q :=
 met_of (L := [some (.ref 11), some (.ref 905), none]) pn_X2 rfl (Nat.le_of_ble_eq_true rfl) <|
 x_aload_n dX2_isWord_0 rfl <|
 x_getf (v := .int (gi σ 1103)) fl_X2_25 rfl rfl rfl dX2_isWord_1 <|
 x_aload_n dX2_isWord_4 rfl <|
 x_getf (v := .int (gi σ 1106)) fl_X2_35 rfl rfl rfl dX2_isWord_5 <|
 x_isub dX2_isWord_8 <|
 x_aload_n dX2_isWord_9 rfl <|
 x_callT (i := 5) (As := []) ok_J0_length_8abf5 rfl ml_X2_106 (okM (by decide)) dX2_isWord_10 (by decide) rfl rfl (Nat.le_of_ble_eq_true rfl) h <|
 (kI (fun τ1 r2 h3 => x_icmp_eq (tgt := 18) dX2_isWord_13 (by decide) (fun c4 => x_iconst dX2_isWord_18 ic_0 <|
 x_istore_n (L2 := [some (.ref 11), some (.ref 905), some (.int (0 : Int32))]) dX2_isWord_19 rfl (Nat.le_of_ble_eq_true rfl) <|
 (h3.1 c4)) (fun c4 => x_iconst dX2_isWord_16 ic_0 <|
 x_zreturn rfl (Or.inl rfl) dX2_isWord_17 ⟨_, rfl, (h3.2 c4)⟩)))
set_option maxRecDepth 100000 in
set_option maxHeartbeats 4000000 in
theorem M_X2_sortOfWord_11 {E : EV} {Q : Sg → Int32 → Prop} {σ : Sg} (h : MetI E mi_X2_isWord [.ref 11, .ref 901] σ (fun τ1 r2 => ((r2 = 0) → MetI E mi_X2_isWord [.ref 11, .ref 902] τ1 (fun τ5 r6 => ((r6 = 0) → MetI E mi_X2_isWord [.ref 11, .ref 903] τ5 (fun τ9 r10 => ((r10 = 0) → MetI E mi_X2_isWord [.ref 11, .ref 904] τ9 (fun τ13 r14 => ((r14 = 0) → MetI E mi_X2_isWord [.ref 11, .ref 905] τ13 (fun τ17 r18 => ((r18 = 0) → Q τ17 (-1 : Int32)) ∧ ((¬ r18 = 0) → Q τ17 (4 : Int32)))) ∧ ((¬ r14 = 0) → Q τ13 (3 : Int32)))) ∧ ((¬ r10 = 0) → Q τ9 (2 : Int32)))) ∧ ((¬ r6 = 0) → Q τ5 (1 : Int32)))) ∧ ((¬ r2 = 0) → Q τ1 (0 : Int32)))) : MetI E mi_X2_sortOfWord [.ref 11] σ Q :=
 met_of (L := [some (.ref 11)]) pn_X2 rfl (Nat.le_of_ble_eq_true rfl) <|
 x_aload_n dX2_sortOfWord_0 rfl <|
 x_ldcS (i := 1) rfl rfl dX2_sortOfWord_1 <|
 x_callV (b := 11) (As := [.ref 901]) ok_X2_isWord ml_X2_57 (okM (by decide)) dX2_sortOfWord_3 rfl rfl (Nat.le_of_ble_eq_true rfl) rfl rfl rfl h <|
 (kI (fun τ1 r2 h3 => x_if_eq (tgt := 11) dX2_sortOfWord_6 (by decide) (fun c4 => x_aload_n dX2_sortOfWord_11 rfl <|
 x_ldcS (i := 2) rfl rfl dX2_sortOfWord_12 <|
 x_callV (b := 11) (As := [.ref 902]) ok_X2_isWord ml_X2_57 (okM (by decide)) dX2_sortOfWord_14 rfl rfl (Nat.le_of_ble_eq_true rfl) rfl rfl rfl (h3.1 c4) <|
 (kI (fun τ5 r6 h7 => x_if_eq (tgt := 22) dX2_sortOfWord_17 (by decide) (fun c8 => x_aload_n dX2_sortOfWord_22 rfl <|
 x_ldcS (i := 3) rfl rfl dX2_sortOfWord_23 <|
 x_callV (b := 11) (As := [.ref 903]) ok_X2_isWord ml_X2_57 (okM (by decide)) dX2_sortOfWord_25 rfl rfl (Nat.le_of_ble_eq_true rfl) rfl rfl rfl (h7.1 c8) <|
 (kI (fun τ9 r10 h11 => x_if_eq (tgt := 33) dX2_sortOfWord_28 (by decide) (fun c12 => x_aload_n dX2_sortOfWord_33 rfl <|
 x_ldcS (i := 4) rfl rfl dX2_sortOfWord_34 <|
 x_callV (b := 11) (As := [.ref 904]) ok_X2_isWord ml_X2_57 (okM (by decide)) dX2_sortOfWord_36 rfl rfl (Nat.le_of_ble_eq_true rfl) rfl rfl rfl (h11.1 c12) <|
 (kI (fun τ13 r14 h15 => x_if_eq (tgt := 44) dX2_sortOfWord_39 (by decide) (fun c16 => x_aload_n dX2_sortOfWord_44 rfl <|
 x_ldcS (i := 5) rfl rfl dX2_sortOfWord_45 <|
 x_callV (b := 11) (As := [.ref 905]) ok_X2_isWord ml_X2_57 (okM (by decide)) dX2_sortOfWord_47 rfl rfl (Nat.le_of_ble_eq_true rfl) rfl rfl rfl (h15.1 c16) <|
 (kI (fun τ17 r18 h19 => x_if_eq (tgt := 57) dX2_sortOfWord_50 (by decide) (fun c20 => x_iconst dX2_sortOfWord_57 ic_m1 <|
 x_ireturn rfl dX2_sortOfWord_58 ⟨_, rfl, (h19.1 c20)⟩) (fun c20 => x_iconst dX2_sortOfWord_53 ic_4 <|
 x_goto (tgt := 58) dX2_sortOfWord_54 (by decide) <|
 x_ireturn rfl dX2_sortOfWord_58 ⟨_, rfl, (h19.2 c20)⟩)))) (fun c16 => x_iconst dX2_sortOfWord_42 ic_3 <|
 x_ireturn rfl dX2_sortOfWord_43 ⟨_, rfl, (h15.2 c16)⟩)))) (fun c12 => x_iconst dX2_sortOfWord_31 ic_2 <|
 x_ireturn rfl dX2_sortOfWord_32 ⟨_, rfl, (h11.2 c12)⟩)))) (fun c8 => x_iconst dX2_sortOfWord_20 ic_1 <|
 x_ireturn rfl dX2_sortOfWord_21 ⟨_, rfl, (h7.2 c8)⟩)))) (fun c4 => x_iconst dX2_sortOfWord_9 ic_0 <|
 x_ireturn rfl dX2_sortOfWord_10 ⟨_, rfl, (h3.2 c4)⟩)))
set_option maxRecDepth 100000 in
set_option maxHeartbeats 4000000 in
theorem M_X0_hasRoomFor_14 {E : EV} {Q : Sg → Int32 → Prop} {σ : Sg} {a1 : Int32} (h : (((40 : Int32) ≤ (gi σ 1405)) → Q σ (0 : Int32)) ∧ ((¬ (40 : Int32) ≤ (gi σ 1405)) → ((¬ a1 = (1 : Int32)) → Q σ (1 : Int32)) ∧ ((a1 = (1 : Int32)) → (((6 : Int32) ≤ (gi σ 1406)) → Q σ (0 : Int32)) ∧ ((¬ (6 : Int32) ≤ (gi σ 1406)) → Q σ (1 : Int32))))) : MetI E mi_X0_hasRoomFor [.ref 14, .int a1] σ Q :=
 met_of (L := [some (.ref 14), some (.int a1)]) pn_X0 rfl (Nat.le_of_ble_eq_true rfl) <|
 x_aload_n dX0_hasRoomFor_0 rfl <|
 x_getf (v := .int (gi σ 1405)) fl_X0_27 rfl rfl rfl dX0_hasRoomFor_1 <|
 x_bipush dX0_hasRoomFor_4 bp_40 <|
 x_icmp_ge (tgt := 27) dX0_hasRoomFor_6 (by decide) (fun c1 => x_iconst dX0_hasRoomFor_27 ic_0 <|
 x_zreturn rfl (Or.inl rfl) dX0_hasRoomFor_28 ⟨_, rfl, (h.1 c1)⟩) (fun c1 => x_iload_n dX0_hasRoomFor_9 rfl <|
 x_iconst dX0_hasRoomFor_10 ic_1 <|
 x_icmp_ne (tgt := 23) dX0_hasRoomFor_11 (by decide) (fun c2 => x_iconst dX0_hasRoomFor_23 ic_1 <|
 x_goto (tgt := 28) dX0_hasRoomFor_24 (by decide) <|
 x_zreturn rfl (Or.inr rfl) dX0_hasRoomFor_28 ⟨_, rfl, ((h.2 c1).1 c2)⟩) (fun c2 => x_aload_n dX0_hasRoomFor_14 rfl <|
 x_getf (v := .int (gi σ 1406)) fl_X0_31 rfl rfl rfl dX0_hasRoomFor_15 <|
 x_bipush dX0_hasRoomFor_18 bp_6 <|
 x_icmp_ge (tgt := 27) dX0_hasRoomFor_20 (by decide) (fun c3 => x_iconst dX0_hasRoomFor_27 ic_0 <|
 x_zreturn rfl (Or.inl rfl) dX0_hasRoomFor_28 ⟨_, rfl, (((h.2 c1).2 c2).1 c3)⟩) (fun c3 => x_iconst dX0_hasRoomFor_23 ic_1 <|
 x_goto (tgt := 28) dX0_hasRoomFor_24 (by decide) <|
 x_zreturn rfl (Or.inr rfl) dX0_hasRoomFor_28 ⟨_, rfl, (((h.2 c1).2 c2).2 c3)⟩)))
set_option maxRecDepth 100000 in
set_option maxHeartbeats 4000000 in
theorem M_X2_readNumber_11 {E : EV} {Q : Sg → Int32 → Prop} {σ : Sg} {a1 : Int32} {a2 : Int32} (h : MetV E mi_X2_readToken [.ref 11] σ (fun τ1 => ((¬ (gi τ1 1104) = (2 : Int32)) → Q τ1 (0 : Int32)) ∧ (((gi τ1 1104) = (2 : Int32)) → (((gi τ1 1105) < a1) → Q τ1 (0 : Int32)) ∧ ((¬ (gi τ1 1105) < a1) → ((a2 < (gi τ1 1105)) → Q τ1 (0 : Int32)) ∧ ((¬ a2 < (gi τ1 1105)) → Q τ1 (1 : Int32)))))) : MetI E mi_X2_readNumber [.ref 11, .int a1, .int a2] σ Q :=
 met_of (L := [some (.ref 11), some (.int a1), some (.int a2)]) pn_X2 rfl (Nat.le_of_ble_eq_true rfl) <|
 x_aload_n dX2_readNumber_0 rfl <|
 x_callV (b := 11) (As := []) ok_X2_readToken ml_X2_48 (okM (by decide)) dX2_readNumber_1 rfl rfl (Nat.le_of_ble_eq_true rfl) rfl rfl rfl h <|
 (kV (fun τ1 h2 => x_aload_n dX2_readNumber_4 rfl <|
 x_getf (v := .int (gi τ1 1104)) fl_X2_29 rfl rfl rfl dX2_readNumber_5 <|
 x_iconst dX2_readNumber_8 ic_2 <|
 x_icmp_ne (tgt := 32) dX2_readNumber_9 (by decide) (fun c3 => x_iconst dX2_readNumber_32 ic_0 <|
 x_zreturn rfl (Or.inl rfl) dX2_readNumber_33 ⟨_, rfl, (h2.1 c3)⟩) (fun c3 => x_aload_n dX2_readNumber_12 rfl <|
 x_getf (v := .int (gi τ1 1105)) fl_X2_32 rfl rfl rfl dX2_readNumber_13 <|
 x_iload_n dX2_readNumber_16 rfl <|
 x_icmp_lt (tgt := 32) dX2_readNumber_17 (by decide) (fun c4 => x_iconst dX2_readNumber_32 ic_0 <|
 x_zreturn rfl (Or.inl rfl) dX2_readNumber_33 ⟨_, rfl, ((h2.2 c3).1 c4)⟩) (fun c4 => x_aload_n dX2_readNumber_20 rfl <|
 x_getf (v := .int (gi τ1 1105)) fl_X2_32 rfl rfl rfl dX2_readNumber_21 <|
 x_iload_n dX2_readNumber_24 rfl <|
 x_icmp_gt (tgt := 32) dX2_readNumber_25 (by decide) (fun c5 => x_iconst dX2_readNumber_32 ic_0 <|
 x_zreturn rfl (Or.inl rfl) dX2_readNumber_33 ⟨_, rfl, (((h2.2 c3).2 c4).1 c5)⟩) (fun c5 => x_iconst dX2_readNumber_28 ic_1 <|
 x_goto (tgt := 33) dX2_readNumber_29 (by decide) <|
 x_zreturn rfl (Or.inr rfl) dX2_readNumber_33 ⟨_, rfl, (((h2.2 c3).2 c4).2 c5)⟩)))))
set_option maxRecDepth 100000 in
set_option maxHeartbeats 4000000 in
theorem M_X1_knows_12 {E : EV} {Q : Sg → Int32 → Prop} {σ : Sg} {a1 : Int32} (h : ((a1 < 0) → Q σ (0 : Int32)) ∧ ((¬ a1 < 0) → (((gi σ 1201) ≤ a1) → Q σ (0 : Int32)) ∧ ((¬ (gi σ 1201) ≤ a1) → Q σ (1 : Int32)))) : MetI E mi_X1_knows [.ref 12, .int a1] σ Q :=
 met_of (L := [some (.ref 12), some (.int a1)]) pn_X1 rfl (Nat.le_of_ble_eq_true rfl) <|
 x_iload_n dX1_knows_0 rfl <|
 x_if_lt (tgt := 16) dX1_knows_1 (by decide) (fun c1 => x_iconst dX1_knows_16 ic_0 <|
 x_zreturn rfl (Or.inl rfl) dX1_knows_17 ⟨_, rfl, (h.1 c1)⟩) (fun c1 => x_iload_n dX1_knows_4 rfl <|
 x_aload_n dX1_knows_5 rfl <|
 x_getf (v := .int (gi σ 1201)) fl_X1_15 rfl rfl rfl dX1_knows_6 <|
 x_icmp_ge (tgt := 16) dX1_knows_9 (by decide) (fun c2 => x_iconst dX1_knows_16 ic_0 <|
 x_zreturn rfl (Or.inl rfl) dX1_knows_17 ⟨_, rfl, ((h.2 c1).1 c2)⟩) (fun c2 => x_iconst dX1_knows_12 ic_1 <|
 x_goto (tgt := 17) dX1_knows_13 (by decide) <|
 x_zreturn rfl (Or.inr rfl) dX1_knows_17 ⟨_, rfl, ((h.2 c1).2 c2)⟩))
set_option maxRecDepth 100000 in
set_option maxHeartbeats 4000000 in
theorem M_X1_allows_12 {E : EV} {Q : Sg → Int32 → Prop} {σ : Sg} {a1 : Int32} {a2 : Int32} {a3 : Int32} (h : ((a1 = 0) → MetI E mi_X1_knows [.ref 12, .int a3] σ (fun τ2 r3 => ((r3 = 0) → Q τ2 (0 : Int32)) ∧ ((¬ r3 = 0) → ((a3 = a2) → Q τ2 (0 : Int32)) ∧ ((¬ a3 = a2) → Q τ2 (1 : Int32))))) ∧ ((¬ a1 = 0) → ((¬ a1 = (1 : Int32)) → ((a3 < 0) → Q σ (0 : Int32)) ∧ ((¬ a3 < 0) → ((¬ a1 = (4 : Int32)) → (((4 : Int32) ≤ a3) → Q σ (0 : Int32)) ∧ ((¬ (4 : Int32) ≤ a3) → Q σ (1 : Int32))) ∧ ((a1 = (4 : Int32)) → (((4 : Int32) ≤ a3) → Q σ (0 : Int32)) ∧ ((¬ (4 : Int32) ≤ a3) → Q σ (1 : Int32))))) ∧ ((a1 = (1 : Int32)) → MetI E mi_X1_knows [.ref 12, .int a3] σ (fun τ12 r13 => ((r13 = 0) → Q τ12 (0 : Int32)) ∧ ((¬ r13 = 0) → ((a3 = a2) → Q τ12 (0 : Int32)) ∧ ((¬ a3 = a2) → Q τ12 (1 : Int32))))))) : MetI E mi_X1_allows [.ref 12, .int a1, .int a2, .int a3] σ Q :=
 met_of (L := [some (.ref 12), some (.int a1), some (.int a2), some (.int a3)]) pn_X1 rfl (Nat.le_of_ble_eq_true rfl) <|
 x_iload_n dX1_allows_0 rfl <|
 x_if_eq (tgt := 9) dX1_allows_1 (by decide) (fun c1 => x_aload_n dX1_allows_9 rfl <|
 x_iload_n dX1_allows_10 rfl <|
 x_callV (b := 12) (As := [.int a3]) ok_X1_knows ml_X1_25 (okM (by decide)) dX1_allows_11 rfl rfl (Nat.le_of_ble_eq_true rfl) rfl rfl rfl (h.1 c1) <|
 (kI (fun τ2 r3 h4 => x_if_eq (tgt := 26) dX1_allows_14 (by decide) (fun c5 => x_iconst dX1_allows_26 ic_0 <|
 x_zreturn rfl (Or.inl rfl) dX1_allows_27 ⟨_, rfl, (h4.1 c5)⟩) (fun c5 => x_iload_n dX1_allows_17 rfl <|
 x_iload_n dX1_allows_18 rfl <|
 x_icmp_eq (tgt := 26) dX1_allows_19 (by decide) (fun c6 => x_iconst dX1_allows_26 ic_0 <|
 x_zreturn rfl (Or.inl rfl) dX1_allows_27 ⟨_, rfl, ((h4.2 c5).1 c6)⟩) (fun c6 => x_iconst dX1_allows_22 ic_1 <|
 x_goto (tgt := 27) dX1_allows_23 (by decide) <|
 x_zreturn rfl (Or.inr rfl) dX1_allows_27 ⟨_, rfl, ((h4.2 c5).2 c6)⟩))))) (fun c1 => x_iload_n dX1_allows_4 rfl <|
 x_iconst dX1_allows_5 ic_1 <|
 x_icmp_ne (tgt := 28) dX1_allows_6 (by decide) (fun c7 => x_iload_n dX1_allows_28 rfl <|
 x_if_lt (tgt := 50) dX1_allows_29 (by decide) (fun c8 => x_iconst dX1_allows_50 ic_0 <|
 x_zreturn rfl (Or.inl rfl) dX1_allows_51 ⟨_, rfl, (((h.2 c1).1 c7).1 c8)⟩) (fun c8 => x_iload_n dX1_allows_32 rfl <|
 x_iload_n dX1_allows_33 rfl <|
 x_iconst dX1_allows_34 ic_4 <|
 x_icmp_ne (tgt := 42) dX1_allows_35 (by decide) (fun c9 => x_iconst dX1_allows_42 ic_4 <|
 x_icmp_ge (tgt := 50) dX1_allows_43 (by decide) (fun c10 => x_iconst dX1_allows_50 ic_0 <|
 x_zreturn rfl (Or.inl rfl) dX1_allows_51 ⟨_, rfl, (((((h.2 c1).1 c7).2 c8).1 c9).1 c10)⟩) (fun c10 => x_iconst dX1_allows_46 ic_1 <|
 x_goto (tgt := 51) dX1_allows_47 (by decide) <|
 x_zreturn rfl (Or.inr rfl) dX1_allows_51 ⟨_, rfl, (((((h.2 c1).1 c7).2 c8).1 c9).2 c10)⟩)) (fun c9 => x_iconst dX1_allows_38 ic_4 <|
 x_goto (tgt := 43) dX1_allows_39 (by decide) <|
 x_icmp_ge (tgt := 50) dX1_allows_43 (by decide) (fun c11 => x_iconst dX1_allows_50 ic_0 <|
 x_zreturn rfl (Or.inl rfl) dX1_allows_51 ⟨_, rfl, (((((h.2 c1).1 c7).2 c8).2 c9).1 c11)⟩) (fun c11 => x_iconst dX1_allows_46 ic_1 <|
 x_goto (tgt := 51) dX1_allows_47 (by decide) <|
 x_zreturn rfl (Or.inr rfl) dX1_allows_51 ⟨_, rfl, (((((h.2 c1).1 c7).2 c8).2 c9).2 c11)⟩)))) (fun c7 => x_aload_n dX1_allows_9 rfl <|
 x_iload_n dX1_allows_10 rfl <|
 x_callV (b := 12) (As := [.int a3]) ok_X1_knows ml_X1_25 (okM (by decide)) dX1_allows_11 rfl rfl (Nat.le_of_ble_eq_true rfl) rfl rfl rfl ((h.2 c1).2 c7) <|
 (kI (fun τ12 r13 h14 => x_if_eq (tgt := 26) dX1_allows_14 (by decide) (fun c15 => x_iconst dX1_allows_26 ic_0 <|
 x_zreturn rfl (Or.inl rfl) dX1_allows_27 ⟨_, rfl, (h14.1 c15)⟩) (fun c15 => x_iload_n dX1_allows_17 rfl <|
 x_iload_n dX1_allows_18 rfl <|
 x_icmp_eq (tgt := 26) dX1_allows_19 (by decide) (fun c16 => x_iconst dX1_allows_26 ic_0 <|
 x_zreturn rfl (Or.inl rfl) dX1_allows_27 ⟨_, rfl, ((h14.2 c15).1 c16)⟩) (fun c16 => x_iconst dX1_allows_22 ic_1 <|
 x_goto (tgt := 27) dX1_allows_23 (by decide) <|
 x_zreturn rfl (Or.inr rfl) dX1_allows_27 ⟨_, rfl, ((h14.2 c15).2 c16)⟩))))))
set_option maxRecDepth 100000 in
set_option maxHeartbeats 4000000 in
theorem M_X2_readStop_11 {E : EV} {Q : Sg → Int32 → Prop} {σ : Sg} (h : MetV E mi_X2_readToken [.ref 11] σ (fun τ1 => ((¬ (gi τ1 1104) = (3 : Int32)) → Q τ1 (0 : Int32)) ∧ (((gi τ1 1104) = (3 : Int32)) → Q τ1 (1 : Int32)))) : MetI E mi_X2_readStop [.ref 11] σ Q :=
 met_of (L := [some (.ref 11)]) pn_X2 rfl (Nat.le_of_ble_eq_true rfl) <|
 x_aload_n dX2_readStop_0 rfl <|
 x_callV (b := 11) (As := []) ok_X2_readToken ml_X2_48 (okM (by decide)) dX2_readStop_1 rfl rfl (Nat.le_of_ble_eq_true rfl) rfl rfl rfl h <|
 (kV (fun τ1 h2 => x_aload_n dX2_readStop_4 rfl <|
 x_getf (v := .int (gi τ1 1104)) fl_X2_29 rfl rfl rfl dX2_readStop_5 <|
 x_iconst dX2_readStop_8 ic_3 <|
 x_icmp_ne (tgt := 16) dX2_readStop_9 (by decide) (fun c3 => x_iconst dX2_readStop_16 ic_0 <|
 x_zreturn rfl (Or.inl rfl) dX2_readStop_17 ⟨_, rfl, (h2.1 c3)⟩) (fun c3 => x_iconst dX2_readStop_12 ic_1 <|
 x_goto (tgt := 17) dX2_readStop_13 (by decide) <|
 x_zreturn rfl (Or.inr rfl) dX2_readStop_17 ⟨_, rfl, (h2.2 c3)⟩)))
set_option maxRecDepth 100000 in
set_option maxHeartbeats 4000000 in
theorem M_X0_add_14 {E : EV} {Q : Sg → Prop} {σ : Sg} {a1 : Int32} {a2 : Int32} {a3 : Int32} (h : MetI E mi_X0_hasRoomFor [.ref 14, .int a1] σ (fun τ1 r2 => ((¬ r2 = 0) → vp_in (gi τ1 1405) 40 ∧ ((¬ a1 = (1 : Int32)) → Q (si (sm (sm (sm (sm (sm τ1 15 (gi τ1 1405).toNatClampNeg a1) 16 (gi τ1 1405).toNatClampNeg (gi τ1 1407)) 17 (gi τ1 1405).toNatClampNeg a2) 18 (gi τ1 1405).toNatClampNeg a3) 19 (gi τ1 1405).toNatClampNeg (0 : Int32)) 1405 ((gi τ1 1405) + (1 : Int32)))) ∧ ((a1 = (1 : Int32)) → Q (si (si (sm (sm (sm (sm (sm τ1 15 (gi τ1 1405).toNatClampNeg a1) 16 (gi τ1 1405).toNatClampNeg (gi τ1 1407)) 17 (gi τ1 1405).toNatClampNeg a2) 18 (gi τ1 1405).toNatClampNeg a3) 19 (gi τ1 1405).toNatClampNeg ((1 : Int32) <<< ((gi τ1 1406) &&& 31))) 1406 ((gi τ1 1406) + (1 : Int32))) 1405 ((gi τ1 1405) + (1 : Int32))))) ∧ ((r2 = 0) → Q τ1))) : MetV E mi_X0_add [.ref 14, .int a1, .int a2, .int a3] σ Q :=
 met_of (L := [some (.ref 14), some (.int a1), some (.int a2), some (.int a3)]) pn_X0 rfl (Nat.le_of_ble_eq_true rfl) <|
 x_aload_n dX0_add_0 rfl <|
 x_iload_n dX0_add_1 rfl <|
 x_callV (b := 14) (As := [.int a1]) ok_X0_hasRoomFor ml_X0_37 (okM (by decide)) dX0_add_2 rfl rfl (Nat.le_of_ble_eq_true rfl) rfl rfl rfl h <|
 (kI (fun τ1 r2 h3 => x_if_ne (tgt := 9) dX0_add_5 (by decide) (fun c4 => x_aload_n dX0_add_9 rfl <|
 x_getf (v := .ref 15) fl_X0_9 rfl rfl rfl dX0_add_10 <|
 x_aload_n dX0_add_13 rfl <|
 x_getf (v := .int (gi τ1 1405)) fl_X0_27 rfl rfl rfl dX0_add_14 <|
 x_iload_n dX0_add_17 rfl <|
 x_iastore rfl (h3.1 c4).1 dX0_add_18 <|
 x_aload_n dX0_add_19 rfl <|
 x_getf (v := .ref 16) fl_X0_15 rfl rfl rfl dX0_add_20 <|
 x_aload_n dX0_add_23 rfl <|
 x_getf (v := .int (gi τ1 1405)) fl_X0_27 rfl rfl rfl dX0_add_24 <|
 x_aload_n dX0_add_27 rfl <|
 x_getf (v := .int (gi τ1 1407)) fl_X0_34 rfl rfl rfl dX0_add_28 <|
 x_iastore rfl (h3.1 c4).1 dX0_add_31 <|
 x_aload_n dX0_add_32 rfl <|
 x_getf (v := .ref 17) fl_X0_18 rfl rfl rfl dX0_add_33 <|
 x_aload_n dX0_add_36 rfl <|
 x_getf (v := .int (gi τ1 1405)) fl_X0_27 rfl rfl rfl dX0_add_37 <|
 x_iload_n dX0_add_40 rfl <|
 x_iastore rfl (h3.1 c4).1 dX0_add_41 <|
 x_aload_n dX0_add_42 rfl <|
 x_getf (v := .ref 18) fl_X0_21 rfl rfl rfl dX0_add_43 <|
 x_aload_n dX0_add_46 rfl <|
 x_getf (v := .int (gi τ1 1405)) fl_X0_27 rfl rfl rfl dX0_add_47 <|
 x_iload_n dX0_add_50 rfl <|
 x_iastore rfl (h3.1 c4).1 dX0_add_51 <|
 x_aload_n dX0_add_52 rfl <|
 x_getf (v := .ref 19) fl_X0_24 rfl rfl rfl dX0_add_53 <|
 x_aload_n dX0_add_56 rfl <|
 x_getf (v := .int (gi τ1 1405)) fl_X0_27 rfl rfl rfl dX0_add_57 <|
 x_iload_n dX0_add_60 rfl <|
 x_iconst dX0_add_61 ic_1 <|
 x_icmp_ne (tgt := 74) dX0_add_62 (by decide) (fun c5 => x_iconst dX0_add_74 ic_0 <|
 x_iastore rfl (h3.1 c4).1 dX0_add_75 <|
 x_iload_n dX0_add_76 rfl <|
 x_iconst dX0_add_77 ic_1 <|
 x_icmp_ne (tgt := 91) dX0_add_78 (by decide) (fun _ => x_aload_n dX0_add_91 rfl <|
 x_dup dX0_add_92 rfl <|
 x_getf (v := .int (gi τ1 1405)) fl_X0_27 rfl rfl rfl dX0_add_93 <|
 x_iconst dX0_add_96 ic_1 <|
 x_iadd dX0_add_97 <|
 x_puti fp_X0_27 rfl rfl dX0_add_98 <|
 x_return rfl dX0_add_101 ⟨rfl, ((h3.1 c4).2.1 c5)⟩) (fun c => absurd c c5)) (fun c5 => x_iconst dX0_add_65 ic_1 <|
 x_aload_n dX0_add_66 rfl <|
 x_getf (v := .int (gi τ1 1406)) fl_X0_31 rfl rfl rfl dX0_add_67 <|
 x_ishl dX0_add_70 <|
 x_goto (tgt := 75) dX0_add_71 (by decide) <|
 x_iastore rfl (h3.1 c4).1 dX0_add_75 <|
 x_iload_n dX0_add_76 rfl <|
 x_iconst dX0_add_77 ic_1 <|
 x_icmp_ne (tgt := 91) dX0_add_78 (by decide) (fun c => absurd c5 c) (fun _ => x_aload_n dX0_add_81 rfl <|
 x_dup dX0_add_82 rfl <|
 x_getf (v := .int (gi τ1 1406)) fl_X0_31 rfl rfl rfl dX0_add_83 <|
 x_iconst dX0_add_86 ic_1 <|
 x_iadd dX0_add_87 <|
 x_puti fp_X0_31 rfl rfl dX0_add_88 <|
 x_aload_n dX0_add_91 rfl <|
 x_dup dX0_add_92 rfl <|
 x_getf (v := .int (gi τ1 1405)) fl_X0_27 rfl rfl rfl dX0_add_93 <|
 x_iconst dX0_add_96 ic_1 <|
 x_iadd dX0_add_97 <|
 x_puti fp_X0_27 rfl rfl dX0_add_98 <|
 x_return rfl dX0_add_101 ⟨rfl, ((h3.1 c4).2.2 c5)⟩))) (fun c4 => x_return rfl dX0_add_8 ⟨rfl, (h3.2 c4)⟩)))
set_option maxRecDepth 100000 in
set_option maxHeartbeats 4000000 in
theorem M_X2_readEvent_11 {E : EV} {Q : Sg → Int32 → Prop} {σ : Sg} {a1 : Int32} (h : MetI E mi_X0_hasRoomFor [.ref 14, .int a1] σ (fun τ1 r2 => ((r2 = 0) → Q τ1 (0 : Int32)) ∧ ((¬ r2 = 0) → MetI E mi_X2_readNumber [.ref 11, .int (gi τ1 1407), .int (99 : Int32)] τ1 (fun τ5 r6 => ((¬ r6 = 0) → MetI E mi_X2_readNumber [.ref 11, .int (0 : Int32), .int ((gi τ5 1201) - (1 : Int32))] τ5 (fun τ9 r10 => ((¬ r10 = 0) → MetI E mi_X2_readNumber [.ref 11, .int (0 : Int32), .int (99 : Int32)] τ9 (fun τ13 r14 => ((r14 = 0) → Q τ13 (0 : Int32)) ∧ ((¬ r14 = 0) → MetI E mi_X1_allows [.ref 12, .int a1, .int (gi τ9 1105), .int (gi τ13 1105)] τ13 (fun τ17 r18 => ((¬ r18 = 0) → MetI E mi_X2_readStop [.ref 11] τ17 (fun τ21 r22 => ((¬ r22 = 0) → MetV E mi_X0_add [.ref 14, .int a1, .int (gi τ9 1105), .int (gi τ17 1105)] (si τ21 1407 (gi τ5 1105)) (fun τ25 => Q τ25 (1 : Int32))) ∧ ((r22 = 0) → Q τ21 (0 : Int32)))) ∧ ((r18 = 0) → Q τ17 (0 : Int32)))))) ∧ ((r10 = 0) → Q τ9 (0 : Int32)))) ∧ ((r6 = 0) → Q τ5 (0 : Int32)))))) : MetI E mi_X2_readEvent [.ref 11, .int a1] σ Q :=
 met_of (L := [some (.ref 11), some (.int a1), none, none, none]) pn_X2 rfl (Nat.le_of_ble_eq_true rfl) <|
 x_aload_n dX2_readEvent_0 rfl <|
 x_getf (v := .ref 14) fl_X2_21 rfl rfl rfl dX2_readEvent_1 <|
 x_iload_n dX2_readEvent_4 rfl <|
 x_callV (b := 14) (As := [.int a1]) ok_X0_hasRoomFor ml_X2_83 (okM (by decide)) dX2_readEvent_5 rfl rfl (Nat.le_of_ble_eq_true rfl) rfl rfl rfl h <|
 (kI (fun τ1 r2 h3 => x_if_eq (tgt := 27) dX2_readEvent_8 (by decide) (fun c4 => x_iconst dX2_readEvent_27 ic_0 <|
 x_zreturn rfl (Or.inl rfl) dX2_readEvent_28 ⟨_, rfl, (h3.1 c4)⟩) (fun c4 => x_aload_n dX2_readEvent_11 rfl <|
 x_aload_n dX2_readEvent_12 rfl <|
 x_getf (v := .ref 14) fl_X2_21 rfl rfl rfl dX2_readEvent_13 <|
 x_getf (v := .int (gi τ1 1407)) fl_X2_86 rfl rfl rfl dX2_readEvent_16 <|
 x_bipush dX2_readEvent_19 bp_99 <|
 x_callV (b := 11) (As := [.int (gi τ1 1407), .int (99 : Int32)]) ok_X2_readNumber ml_X2_72 (okM (by decide)) dX2_readEvent_21 rfl rfl (Nat.le_of_ble_eq_true rfl) rfl rfl rfl (h3.2 c4) <|
 (kI (fun τ5 r6 h7 => x_if_ne (tgt := 29) dX2_readEvent_24 (by decide) (fun c8 => x_aload_n dX2_readEvent_29 rfl <|
 x_getf (v := .int (gi τ5 1105)) fl_X2_32 rfl rfl rfl dX2_readEvent_30 <|
 x_istore_n (L2 := [some (.ref 11), some (.int a1), some (.int (gi τ5 1105)), none, none]) dX2_readEvent_33 rfl (Nat.le_of_ble_eq_true rfl) <|
 x_aload_n dX2_readEvent_34 rfl <|
 x_iconst dX2_readEvent_35 ic_0 <|
 x_aload_n dX2_readEvent_36 rfl <|
 x_getf (v := .ref 12) fl_X2_12 rfl rfl rfl dX2_readEvent_37 <|
 x_getf (v := .int (gi τ5 1201)) fl_X2_42 rfl rfl rfl dX2_readEvent_40 <|
 x_iconst dX2_readEvent_43 ic_1 <|
 x_isub dX2_readEvent_44 <|
 x_callV (b := 11) (As := [.int (0 : Int32), .int ((gi τ5 1201) - (1 : Int32))]) ok_X2_readNumber ml_X2_72 (okM (by decide)) dX2_readEvent_45 rfl rfl (Nat.le_of_ble_eq_true rfl) rfl rfl rfl (h7.1 c8) <|
 (kI (fun τ9 r10 h11 => x_if_ne (tgt := 53) dX2_readEvent_48 (by decide) (fun c12 => x_aload_n dX2_readEvent_53 rfl <|
 x_getf (v := .int (gi τ9 1105)) fl_X2_32 rfl rfl rfl dX2_readEvent_54 <|
 x_istore_n (L2 := [some (.ref 11), some (.int a1), some (.int (gi τ5 1105)), some (.int (gi τ9 1105)), none]) dX2_readEvent_57 rfl (Nat.le_of_ble_eq_true rfl) <|
 x_aload_n dX2_readEvent_58 rfl <|
 x_iconst dX2_readEvent_59 ic_0 <|
 x_bipush dX2_readEvent_60 bp_99 <|
 x_callV (b := 11) (As := [.int (0 : Int32), .int (99 : Int32)]) ok_X2_readNumber ml_X2_72 (okM (by decide)) dX2_readEvent_62 rfl rfl (Nat.le_of_ble_eq_true rfl) rfl rfl rfl (h11.1 c12) <|
 (kI (fun τ13 r14 h15 => x_if_eq (tgt := 84) dX2_readEvent_65 (by decide) (fun c16 => x_iconst dX2_readEvent_84 ic_0 <|
 x_zreturn rfl (Or.inl rfl) dX2_readEvent_85 ⟨_, rfl, (h15.1 c16)⟩) (fun c16 => x_aload_n dX2_readEvent_68 rfl <|
 x_getf (v := .ref 12) fl_X2_12 rfl rfl rfl dX2_readEvent_69 <|
 x_iload_n dX2_readEvent_72 rfl <|
 x_iload_n dX2_readEvent_73 rfl <|
 x_aload_n dX2_readEvent_74 rfl <|
 x_getf (v := .int (gi τ13 1105)) fl_X2_32 rfl rfl rfl dX2_readEvent_75 <|
 x_callV (b := 12) (As := [.int a1, .int (gi τ9 1105), .int (gi τ13 1105)]) ok_X1_allows ml_X2_89 (okM (by decide)) dX2_readEvent_78 rfl rfl (Nat.le_of_ble_eq_true rfl) rfl rfl rfl (h15.2 c16) <|
 (kI (fun τ17 r18 h19 => x_if_ne (tgt := 86) dX2_readEvent_81 (by decide) (fun c20 => x_aload_n dX2_readEvent_86 rfl <|
 x_getf (v := .int (gi τ17 1105)) fl_X2_32 rfl rfl rfl dX2_readEvent_87 <|
 x_istore (L2 := [some (.ref 11), some (.int a1), some (.int (gi τ5 1105)), some (.int (gi τ9 1105)), some (.int (gi τ17 1105))]) dX2_readEvent_90 rfl (Nat.le_of_ble_eq_true rfl) <|
 x_aload_n dX2_readEvent_92 rfl <|
 x_callV (b := 11) (As := []) ok_X2_readStop ml_X2_76 (okM (by decide)) dX2_readEvent_93 rfl rfl (Nat.le_of_ble_eq_true rfl) rfl rfl rfl (h19.1 c20) <|
 (kI (fun τ21 r22 h23 => x_if_ne (tgt := 101) dX2_readEvent_96 (by decide) (fun c24 => x_aload_n dX2_readEvent_101 rfl <|
 x_getf (v := .ref 14) fl_X2_21 rfl rfl rfl dX2_readEvent_102 <|
 x_iload_n dX2_readEvent_105 rfl <|
 x_puti fp_X2_86 rfl rfl dX2_readEvent_106 <|
 x_aload_n dX2_readEvent_109 rfl <|
 x_getf (v := .ref 14) fl_X2_21 rfl rfl rfl dX2_readEvent_110 <|
 x_iload_n dX2_readEvent_113 rfl <|
 x_iload_n dX2_readEvent_114 rfl <|
 x_iload dX2_readEvent_115 rfl <|
 x_callV (b := 14) (As := [.int a1, .int (gi τ9 1105), .int (gi τ17 1105)]) ok_X0_add ml_X2_93 (okM (by decide)) dX2_readEvent_117 rfl rfl (Nat.le_of_ble_eq_true rfl) rfl rfl rfl (h23.1 c24) <|
 (kV (fun τ25 h26 => x_iconst dX2_readEvent_120 ic_1 <|
 x_zreturn rfl (Or.inr rfl) dX2_readEvent_121 ⟨_, rfl, h26⟩))) (fun c24 => x_iconst dX2_readEvent_99 ic_0 <|
 x_zreturn rfl (Or.inl rfl) dX2_readEvent_100 ⟨_, rfl, (h23.2 c24)⟩)))) (fun c20 => x_iconst dX2_readEvent_84 ic_0 <|
 x_zreturn rfl (Or.inl rfl) dX2_readEvent_85 ⟨_, rfl, (h19.2 c20)⟩))))))) (fun c12 => x_iconst dX2_readEvent_51 ic_0 <|
 x_zreturn rfl (Or.inl rfl) dX2_readEvent_52 ⟨_, rfl, (h11.2 c12)⟩)))) (fun c8 => x_iconst dX2_readEvent_27 ic_0 <|
 x_zreturn rfl (Or.inl rfl) dX2_readEvent_28 ⟨_, rfl, (h7.2 c8)⟩))))))
set_option maxRecDepth 100000 in
set_option maxHeartbeats 4000000 in
theorem M_X1_add_12 {E : EV} {Q : Sg → Prop} {σ : Sg} {a1 : Int32} (h : (((8 : Int32) ≤ (gi σ 1201)) → Q σ) ∧ ((¬ (8 : Int32) ≤ (gi σ 1201)) → vp_in (gi σ 1201) 8 ∧ Q (si (sm σ 13 (gi σ 1201).toNatClampNeg a1) 1201 ((gi σ 1201) + (1 : Int32))))) : MetV E mi_X1_add [.ref 12, .int a1] σ Q :=
 met_of (L := [some (.ref 12), some (.int a1)]) pn_X1 rfl (Nat.le_of_ble_eq_true rfl) <|
 x_aload_n dX1_add_0 rfl <|
 x_getf (v := .int (gi σ 1201)) fl_X1_15 rfl rfl rfl dX1_add_1 <|
 x_bipush dX1_add_4 bp_8 <|
 x_icmp_ge (tgt := 29) dX1_add_6 (by decide) (fun c1 => x_return rfl dX1_add_29 ⟨rfl, (h.1 c1)⟩) (fun c1 => x_aload_n dX1_add_9 rfl <|
 x_getf (v := .ref 13) fl_X1_9 rfl rfl rfl dX1_add_10 <|
 x_aload_n dX1_add_13 rfl <|
 x_getf (v := .int (gi σ 1201)) fl_X1_15 rfl rfl rfl dX1_add_14 <|
 x_iload_n dX1_add_17 rfl <|
 x_iastore rfl (h.2 c1).1 dX1_add_18 <|
 x_aload_n dX1_add_19 rfl <|
 x_dup dX1_add_20 rfl <|
 x_getf (v := .int (gi σ 1201)) fl_X1_15 rfl rfl rfl dX1_add_21 <|
 x_iconst dX1_add_24 ic_1 <|
 x_iadd dX1_add_25 <|
 x_puti fp_X1_15 rfl rfl dX1_add_26 <|
 x_return rfl dX1_add_29 ⟨rfl, (h.2 c1).2⟩)
set_option maxRecDepth 100000 in
set_option maxHeartbeats 4000000 in
theorem M_X2_readPerson_11 {E : EV} {Q : Sg → Int32 → Prop} {σ : Sg} (h : (((8 : Int32) ≤ (gi σ 1201)) → Q σ (0 : Int32)) ∧ ((¬ (8 : Int32) ≤ (gi σ 1201)) → MetI E mi_X2_readNumber [.ref 11, .int (0 : Int32), .int (3 : Int32)] σ (fun τ2 r3 => ((¬ r3 = 0) → MetI E mi_X2_readStop [.ref 11] τ2 (fun τ6 r7 => ((¬ r7 = 0) → MetV E mi_X1_add [.ref 12, .int (gi τ2 1105)] τ6 (fun τ10 => Q τ10 (1 : Int32))) ∧ ((r7 = 0) → Q τ6 (0 : Int32)))) ∧ ((r3 = 0) → Q τ2 (0 : Int32))))) : MetI E mi_X2_readPerson [.ref 11] σ Q :=
 met_of (L := [some (.ref 11), none]) pn_X2 rfl (Nat.le_of_ble_eq_true rfl) <|
 x_aload_n dX2_readPerson_0 rfl <|
 x_getf (v := .ref 12) fl_X2_12 rfl rfl rfl dX2_readPerson_1 <|
 x_getf (v := .int (gi σ 1201)) fl_X2_42 rfl rfl rfl dX2_readPerson_4 <|
 x_bipush dX2_readPerson_7 bp_8 <|
 x_icmp_ge (tgt := 21) dX2_readPerson_9 (by decide) (fun c1 => x_iconst dX2_readPerson_21 ic_0 <|
 x_zreturn rfl (Or.inl rfl) dX2_readPerson_22 ⟨_, rfl, (h.1 c1)⟩) (fun c1 => x_aload_n dX2_readPerson_12 rfl <|
 x_iconst dX2_readPerson_13 ic_0 <|
 x_iconst dX2_readPerson_14 ic_3 <|
 x_callV (b := 11) (As := [.int (0 : Int32), .int (3 : Int32)]) ok_X2_readNumber ml_X2_72 (okM (by decide)) dX2_readPerson_15 rfl rfl (Nat.le_of_ble_eq_true rfl) rfl rfl rfl (h.2 c1) <|
 (kI (fun τ2 r3 h4 => x_if_ne (tgt := 23) dX2_readPerson_18 (by decide) (fun c5 => x_aload_n dX2_readPerson_23 rfl <|
 x_getf (v := .int (gi τ2 1105)) fl_X2_32 rfl rfl rfl dX2_readPerson_24 <|
 x_istore_n (L2 := [some (.ref 11), some (.int (gi τ2 1105))]) dX2_readPerson_27 rfl (Nat.le_of_ble_eq_true rfl) <|
 x_aload_n dX2_readPerson_28 rfl <|
 x_callV (b := 11) (As := []) ok_X2_readStop ml_X2_76 (okM (by decide)) dX2_readPerson_29 rfl rfl (Nat.le_of_ble_eq_true rfl) rfl rfl rfl (h4.1 c5) <|
 (kI (fun τ6 r7 h8 => x_if_ne (tgt := 37) dX2_readPerson_32 (by decide) (fun c9 => x_aload_n dX2_readPerson_37 rfl <|
 x_getf (v := .ref 12) fl_X2_12 rfl rfl rfl dX2_readPerson_38 <|
 x_iload_n dX2_readPerson_41 rfl <|
 x_callV (b := 12) (As := [.int (gi τ2 1105)]) ok_X1_add ml_X2_79 (okM (by decide)) dX2_readPerson_42 rfl rfl (Nat.le_of_ble_eq_true rfl) rfl rfl rfl (h8.1 c9) <|
 (kV (fun τ10 h11 => x_iconst dX2_readPerson_45 ic_1 <|
 x_zreturn rfl (Or.inr rfl) dX2_readPerson_46 ⟨_, rfl, h11⟩))) (fun c9 => x_iconst dX2_readPerson_35 ic_0 <|
 x_zreturn rfl (Or.inl rfl) dX2_readPerson_36 ⟨_, rfl, (h8.2 c9)⟩)))) (fun c5 => x_iconst dX2_readPerson_21 ic_0 <|
 x_zreturn rfl (Or.inl rfl) dX2_readPerson_22 ⟨_, rfl, (h4.2 c5)⟩))))
set_option maxRecDepth 100000 in
set_option maxHeartbeats 4000000 in
theorem M_X2_readItem_11 {E : EV} {Q : Sg → Int32 → Prop} {σ : Sg} (h : (((gi σ 1104) = (1 : Int32)) → MetI E mi_X2_isWord [.ref 11, .ref 900] σ (fun τ2 r3 => ((r3 = 0) → MetI E mi_X2_sortOfWord [.ref 11] τ2 (fun τ6 r7 => ((r7 < 0) → Q τ6 (0 : Int32)) ∧ ((¬ r7 < 0) → MetI E mi_X2_readEvent [.ref 11, .int r7] τ6 (fun τ10 r11 => ((r11 = 0) → Q τ10 (0 : Int32)) ∧ ((¬ r11 = 0) → Q τ10 (1 : Int32)))))) ∧ ((¬ r3 = 0) → MetI E mi_X2_readPerson [.ref 11] τ2 (fun τ14 r15 => (r15 = 0 ∨ r15 = 1) ∧ Q τ14 r15)))) ∧ ((¬ (gi σ 1104) = (1 : Int32)) → Q σ (0 : Int32))) : MetI E mi_X2_readItem [.ref 11] σ Q :=
 met_of (L := [some (.ref 11), none]) pn_X2 rfl (Nat.le_of_ble_eq_true rfl) <|
 x_aload_n dX2_readItem_0 rfl <|
 x_getf (v := .int (gi σ 1104)) fl_X2_29 rfl rfl rfl dX2_readItem_1 <|
 x_iconst dX2_readItem_4 ic_1 <|
 x_icmp_eq (tgt := 10) dX2_readItem_5 (by decide) (fun c1 => x_aload_n dX2_readItem_10 rfl <|
 x_ldcS (i := 0) rfl rfl dX2_readItem_11 <|
 x_callV (b := 11) (As := [.ref 900]) ok_X2_isWord ml_X2_57 (okM (by decide)) dX2_readItem_13 rfl rfl (Nat.le_of_ble_eq_true rfl) rfl rfl rfl (h.1 c1) <|
 (kI (fun τ2 r3 h4 => x_if_eq (tgt := 24) dX2_readItem_16 (by decide) (fun c5 => x_aload_n dX2_readItem_24 rfl <|
 x_callV (b := 11) (As := []) ok_X2_sortOfWord ml_X2_64 (okM (by decide)) dX2_readItem_25 rfl rfl (Nat.le_of_ble_eq_true rfl) rfl rfl rfl (h4.1 c5) <|
 (kI (fun τ6 r7 h8 => x_istore_n (L2 := [some (.ref 11), some (.int r7)]) dX2_readItem_28 rfl (Nat.le_of_ble_eq_true rfl) <|
 x_iload_n dX2_readItem_29 rfl <|
 x_if_lt (tgt := 45) dX2_readItem_30 (by decide) (fun c9 => x_iconst dX2_readItem_45 ic_0 <|
 x_zreturn rfl (Or.inl rfl) dX2_readItem_46 ⟨_, rfl, (h8.1 c9)⟩) (fun c9 => x_aload_n dX2_readItem_33 rfl <|
 x_iload_n dX2_readItem_34 rfl <|
 x_callV (b := 11) (As := [.int r7]) ok_X2_readEvent ml_X2_68 (okM (by decide)) dX2_readItem_35 rfl rfl (Nat.le_of_ble_eq_true rfl) rfl rfl rfl (h8.2 c9) <|
 (kI (fun τ10 r11 h12 => x_if_eq (tgt := 45) dX2_readItem_38 (by decide) (fun c13 => x_iconst dX2_readItem_45 ic_0 <|
 x_zreturn rfl (Or.inl rfl) dX2_readItem_46 ⟨_, rfl, (h12.1 c13)⟩) (fun c13 => x_iconst dX2_readItem_41 ic_1 <|
 x_goto (tgt := 46) dX2_readItem_42 (by decide) <|
 x_zreturn rfl (Or.inr rfl) dX2_readItem_46 ⟨_, rfl, (h12.2 c13)⟩))))))) (fun c5 => x_aload_n dX2_readItem_19 rfl <|
 x_callV (b := 11) (As := []) ok_X2_readPerson ml_X2_61 (okM (by decide)) dX2_readItem_20 rfl rfl (Nat.le_of_ble_eq_true rfl) rfl rfl rfl (h4.2 c5) <|
 (kI (fun τ14 r15 h16 => x_zreturn rfl h16.1 dX2_readItem_23 ⟨_, rfl, h16.2⟩)))))) (fun c1 => x_iconst dX2_readItem_8 ic_0 <|
 x_zreturn rfl (Or.inl rfl) dX2_readItem_9 ⟨_, rfl, (h.2 c1)⟩)
def K_X2_readText_11_22 (E : EV) (Q : Sg → Int32 → Prop) (σ : Sg) (v1 : Int32) : Prop := J E mi_X2_readText (tgM E mi_X2_readText (qI Q)) 22 [some (.ref 11), some (.int v1)] [] σ
set_option maxRecDepth 100000 in
set_option maxHeartbeats 4000000 in
theorem B_X2_readText_11_22 {E : EV} {Q : Sg → Int32 → Prop} {σ : Sg} {v1 : Int32} (h : (((400 : Int32) < v1) → Q σ (-1 : Int32)) ∧ ((¬ (400 : Int32) < v1) → MetV E mi_X2_readToken [.ref 11] σ (fun τ2 => ((¬ (gi τ2 1104) = 0) → MetI E mi_X2_readItem [.ref 11] τ2 (fun τ5 r6 => ((¬ r6 = 0) → K_X2_readText_11_22 E Q τ5 (v1 + 1)) ∧ ((r6 = 0) → Q τ5 (-1 : Int32)))) ∧ (((gi τ2 1104) = 0) → Q τ2 v1)))) : K_X2_readText_11_22 E Q σ v1 :=
 x_iload_n dX2_readText_22 rfl <|
 x_sipush dX2_readText_23 sp_400 <|
 x_icmp_gt (tgt := 57) dX2_readText_26 (by decide) (fun c1 => x_iconst dX2_readText_57 ic_m1 <|
 x_ireturn rfl dX2_readText_58 ⟨_, rfl, (h.1 c1)⟩) (fun c1 => x_aload_n dX2_readText_29 rfl <|
 x_callV (b := 11) (As := []) ok_X2_readToken ml_X2_48 (okM (by decide)) dX2_readText_30 rfl rfl (Nat.le_of_ble_eq_true rfl) rfl rfl rfl (h.2 c1) <|
 (kV (fun τ2 h3 => x_aload_n dX2_readText_33 rfl <|
 x_getf (v := .int (gi τ2 1104)) fl_X2_29 rfl rfl rfl dX2_readText_34 <|
 x_if_ne (tgt := 42) dX2_readText_37 (by decide) (fun c4 => x_aload_n dX2_readText_42 rfl <|
 x_callV (b := 11) (As := []) ok_X2_readItem ml_X2_51 (okM (by decide)) dX2_readText_43 rfl rfl (Nat.le_of_ble_eq_true rfl) rfl rfl rfl (h3.1 c4) <|
 (kI (fun τ5 r6 h7 => x_if_ne (tgt := 51) dX2_readText_46 (by decide) (fun c8 => x_iinc (v := (v1 + 1)) (L2 := [some (.ref 11), some (.int (v1 + 1))]) dX2_readText_51 rfl (by rw [show Int32.ofInt (1) = 1 by decide]) rfl (Nat.le_of_ble_eq_true rfl) <|
 x_goto (tgt := 22) dX2_readText_54 (by decide) <|
 (h7.1 c8)) (fun c8 => x_iconst dX2_readText_49 ic_m1 <|
 x_ireturn rfl dX2_readText_50 ⟨_, rfl, (h7.2 c8)⟩)))) (fun c4 => x_iload_n dX2_readText_40 rfl <|
 x_ireturn rfl dX2_readText_41 ⟨_, rfl, (h3.2 c4)⟩))))
set_option maxRecDepth 100000 in
set_option maxHeartbeats 4000000 in
theorem M_X2_readText_11 {E : EV} {Q : Sg → Int32 → Prop} {σ : Sg} (h : MetV E mi_X0_forget [.ref 14] (si (si σ 1103 (0 : Int32)) 1201 (0 : Int32)) (fun τ1 => K_X2_readText_11_22 E Q τ1 (0 : Int32))) : MetI E mi_X2_readText [.ref 11] σ Q :=
 met_of (L := [some (.ref 11), none]) pn_X2 rfl (Nat.le_of_ble_eq_true rfl) <|
 x_aload_n dX2_readText_0 rfl <|
 x_iconst dX2_readText_1 ic_0 <|
 x_puti fp_X2_25 rfl rfl dX2_readText_2 <|
 x_aload_n dX2_readText_5 rfl <|
 x_getf (v := .ref 12) fl_X2_12 rfl rfl rfl dX2_readText_6 <|
 x_iconst dX2_readText_9 ic_0 <|
 x_puti fp_X2_42 rfl rfl dX2_readText_10 <|
 x_aload_n dX2_readText_13 rfl <|
 x_getf (v := .ref 14) fl_X2_21 rfl rfl rfl dX2_readText_14 <|
 x_callV (b := 14) (As := []) ok_X0_forget ml_X2_45 (okM (by decide)) dX2_readText_17 rfl rfl (Nat.le_of_ble_eq_true rfl) rfl rfl rfl h <|
 (kV (fun τ1 h2 => x_iconst dX2_readText_20 ic_0 <|
 x_istore_n (L2 := [some (.ref 11), some (.int (0 : Int32))]) dX2_readText_21 rfl (Nat.le_of_ble_eq_true rfl) <|
 h2))
set_option maxRecDepth 100000 in
set_option maxHeartbeats 4000000 in
theorem M_X1_takeFrom_3_12 {E : EV} {Q : Sg → Prop} {σ : Sg} (h : Q (si (sa σ 4 (va_cpy (gm σ 13) (gm σ 4) ((0 : Int32)).toNatClampNeg ((0 : Int32)).toNatClampNeg ((8 : Int32)).toNatClampNeg)) 301 (gi σ 1201))) : MetV E mi_X1_takeFrom [.ref 3, .ref 12] σ Q :=
 met_of (L := [some (.ref 3), some (.ref 12)]) pn_X1 rfl (Nat.le_of_ble_eq_true rfl) <|
 x_aload_n dX1_takeFrom_0 rfl <|
 x_getf (v := .ref 13) fl_X1_9 rfl rfl rfl dX1_takeFrom_1 <|
 x_iconst dX1_takeFrom_4 ic_0 <|
 x_aload_n dX1_takeFrom_5 rfl <|
 x_getf (v := .ref 4) fl_X1_9 rfl rfl rfl dX1_takeFrom_6 <|
 x_iconst dX1_takeFrom_9 ic_0 <|
 x_bipush dX1_takeFrom_10 bp_8 <|
 x_copy ml_X1_19 ⟨Nat.le_of_ble_eq_true rfl, Nat.le_of_ble_eq_true rfl⟩ rfl rfl (by decide) (by decide) (by decide) (by decide) (by decide) (Nat.le_of_ble_eq_true rfl) dX1_takeFrom_12 <|
 x_aload_n dX1_takeFrom_15 rfl <|
 x_aload_n dX1_takeFrom_16 rfl <|
 x_getf (v := .int (gi σ 1201)) fl_X1_15 rfl rfl rfl dX1_takeFrom_17 <|
 x_puti fp_X1_15 rfl rfl dX1_takeFrom_20 <|
 x_return rfl dX1_takeFrom_23 ⟨rfl, h⟩
set_option maxRecDepth 100000 in
set_option maxHeartbeats 4000000 in
theorem M_X0_takeFrom_5_14 {E : EV} {Q : Sg → Prop} {σ : Sg} (h : Q (si (si (si (sa (sa (sa (sa (sa σ 6 (va_cpy (gm σ 15) (gm σ 6) ((0 : Int32)).toNatClampNeg ((0 : Int32)).toNatClampNeg ((40 : Int32)).toNatClampNeg)) 7 (va_cpy (gm σ 16) (gm σ 7) ((0 : Int32)).toNatClampNeg ((0 : Int32)).toNatClampNeg ((40 : Int32)).toNatClampNeg)) 8 (va_cpy (gm σ 17) (gm σ 8) ((0 : Int32)).toNatClampNeg ((0 : Int32)).toNatClampNeg ((40 : Int32)).toNatClampNeg)) 9 (va_cpy (gm σ 18) (gm σ 9) ((0 : Int32)).toNatClampNeg ((0 : Int32)).toNatClampNeg ((40 : Int32)).toNatClampNeg)) 10 (va_cpy (gm σ 19) (gm σ 10) ((0 : Int32)).toNatClampNeg ((0 : Int32)).toNatClampNeg ((40 : Int32)).toNatClampNeg)) 505 (gi σ 1405)) 506 (gi σ 1406)) 507 (gi σ 1407))) : MetV E mi_X0_takeFrom [.ref 5, .ref 14] σ Q :=
 met_of (L := [some (.ref 5), some (.ref 14)]) pn_X0 rfl (Nat.le_of_ble_eq_true rfl) <|
 x_aload_n dX0_takeFrom_0 rfl <|
 x_getf (v := .ref 15) fl_X0_9 rfl rfl rfl dX0_takeFrom_1 <|
 x_iconst dX0_takeFrom_4 ic_0 <|
 x_aload_n dX0_takeFrom_5 rfl <|
 x_getf (v := .ref 6) fl_X0_9 rfl rfl rfl dX0_takeFrom_6 <|
 x_iconst dX0_takeFrom_9 ic_0 <|
 x_bipush dX0_takeFrom_10 bp_40 <|
 x_copy ml_X0_41 ⟨Nat.le_of_ble_eq_true rfl, Nat.le_of_ble_eq_true rfl⟩ rfl rfl (by decide) (by decide) (by decide) (by decide) (by decide) (Nat.le_of_ble_eq_true rfl) dX0_takeFrom_12 <|
 x_aload_n dX0_takeFrom_15 rfl <|
 x_getf (v := .ref 16) fl_X0_15 rfl rfl rfl dX0_takeFrom_16 <|
 x_iconst dX0_takeFrom_19 ic_0 <|
 x_aload_n dX0_takeFrom_20 rfl <|
 x_getf (v := .ref 7) fl_X0_15 rfl rfl rfl dX0_takeFrom_21 <|
 x_iconst dX0_takeFrom_24 ic_0 <|
 x_bipush dX0_takeFrom_25 bp_40 <|
 x_copy ml_X0_41 ⟨Nat.le_of_ble_eq_true rfl, Nat.le_of_ble_eq_true rfl⟩ rfl rfl (by decide) (by decide) (by decide) (by decide) (by decide) (Nat.le_of_ble_eq_true rfl) dX0_takeFrom_27 <|
 x_aload_n dX0_takeFrom_30 rfl <|
 x_getf (v := .ref 17) fl_X0_18 rfl rfl rfl dX0_takeFrom_31 <|
 x_iconst dX0_takeFrom_34 ic_0 <|
 x_aload_n dX0_takeFrom_35 rfl <|
 x_getf (v := .ref 8) fl_X0_18 rfl rfl rfl dX0_takeFrom_36 <|
 x_iconst dX0_takeFrom_39 ic_0 <|
 x_bipush dX0_takeFrom_40 bp_40 <|
 x_copy ml_X0_41 ⟨Nat.le_of_ble_eq_true rfl, Nat.le_of_ble_eq_true rfl⟩ rfl rfl (by decide) (by decide) (by decide) (by decide) (by decide) (Nat.le_of_ble_eq_true rfl) dX0_takeFrom_42 <|
 x_aload_n dX0_takeFrom_45 rfl <|
 x_getf (v := .ref 18) fl_X0_21 rfl rfl rfl dX0_takeFrom_46 <|
 x_iconst dX0_takeFrom_49 ic_0 <|
 x_aload_n dX0_takeFrom_50 rfl <|
 x_getf (v := .ref 9) fl_X0_21 rfl rfl rfl dX0_takeFrom_51 <|
 x_iconst dX0_takeFrom_54 ic_0 <|
 x_bipush dX0_takeFrom_55 bp_40 <|
 x_copy ml_X0_41 ⟨Nat.le_of_ble_eq_true rfl, Nat.le_of_ble_eq_true rfl⟩ rfl rfl (by decide) (by decide) (by decide) (by decide) (by decide) (Nat.le_of_ble_eq_true rfl) dX0_takeFrom_57 <|
 x_aload_n dX0_takeFrom_60 rfl <|
 x_getf (v := .ref 19) fl_X0_24 rfl rfl rfl dX0_takeFrom_61 <|
 x_iconst dX0_takeFrom_64 ic_0 <|
 x_aload_n dX0_takeFrom_65 rfl <|
 x_getf (v := .ref 10) fl_X0_24 rfl rfl rfl dX0_takeFrom_66 <|
 x_iconst dX0_takeFrom_69 ic_0 <|
 x_bipush dX0_takeFrom_70 bp_40 <|
 x_copy ml_X0_41 ⟨Nat.le_of_ble_eq_true rfl, Nat.le_of_ble_eq_true rfl⟩ rfl rfl (by decide) (by decide) (by decide) (by decide) (by decide) (Nat.le_of_ble_eq_true rfl) dX0_takeFrom_72 <|
 x_aload_n dX0_takeFrom_75 rfl <|
 x_aload_n dX0_takeFrom_76 rfl <|
 x_getf (v := .int (gi σ 1405)) fl_X0_27 rfl rfl rfl dX0_takeFrom_77 <|
 x_puti fp_X0_27 rfl rfl dX0_takeFrom_80 <|
 x_aload_n dX0_takeFrom_83 rfl <|
 x_aload_n dX0_takeFrom_84 rfl <|
 x_getf (v := .int (gi σ 1406)) fl_X0_31 rfl rfl rfl dX0_takeFrom_85 <|
 x_puti fp_X0_31 rfl rfl dX0_takeFrom_88 <|
 x_aload_n dX0_takeFrom_91 rfl <|
 x_aload_n dX0_takeFrom_92 rfl <|
 x_getf (v := .int (gi σ 1407)) fl_X0_34 rfl rfl rfl dX0_takeFrom_93 <|
 x_puti fp_X0_34 rfl rfl dX0_takeFrom_96 <|
 x_return rfl dX0_takeFrom_99 ⟨rfl, h⟩
set_option maxRecDepth 100000 in
set_option maxHeartbeats 4000000 in
theorem M_X1_knows_3 {E : EV} {Q : Sg → Int32 → Prop} {σ : Sg} {a1 : Int32} (h : ((a1 < 0) → Q σ (0 : Int32)) ∧ ((¬ a1 < 0) → (((gi σ 301) ≤ a1) → Q σ (0 : Int32)) ∧ ((¬ (gi σ 301) ≤ a1) → Q σ (1 : Int32)))) : MetI E mi_X1_knows [.ref 3, .int a1] σ Q :=
 met_of (L := [some (.ref 3), some (.int a1)]) pn_X1 rfl (Nat.le_of_ble_eq_true rfl) <|
 x_iload_n dX1_knows_0 rfl <|
 x_if_lt (tgt := 16) dX1_knows_1 (by decide) (fun c1 => x_iconst dX1_knows_16 ic_0 <|
 x_zreturn rfl (Or.inl rfl) dX1_knows_17 ⟨_, rfl, (h.1 c1)⟩) (fun c1 => x_iload_n dX1_knows_4 rfl <|
 x_aload_n dX1_knows_5 rfl <|
 x_getf (v := .int (gi σ 301)) fl_X1_15 rfl rfl rfl dX1_knows_6 <|
 x_icmp_ge (tgt := 16) dX1_knows_9 (by decide) (fun c2 => x_iconst dX1_knows_16 ic_0 <|
 x_zreturn rfl (Or.inl rfl) dX1_knows_17 ⟨_, rfl, ((h.2 c1).1 c2)⟩) (fun c2 => x_iconst dX1_knows_12 ic_1 <|
 x_goto (tgt := 17) dX1_knows_13 (by decide) <|
 x_zreturn rfl (Or.inr rfl) dX1_knows_17 ⟨_, rfl, ((h.2 c1).2 c2)⟩))
set_option maxRecDepth 100000 in
set_option maxHeartbeats 4000000 in
theorem M_X1_allows_3 {E : EV} {Q : Sg → Int32 → Prop} {σ : Sg} {a1 : Int32} {a2 : Int32} {a3 : Int32} (h : ((a1 = 0) → MetI E mi_X1_knows [.ref 3, .int a3] σ (fun τ2 r3 => ((r3 = 0) → Q τ2 (0 : Int32)) ∧ ((¬ r3 = 0) → ((a3 = a2) → Q τ2 (0 : Int32)) ∧ ((¬ a3 = a2) → Q τ2 (1 : Int32))))) ∧ ((¬ a1 = 0) → ((¬ a1 = (1 : Int32)) → ((a3 < 0) → Q σ (0 : Int32)) ∧ ((¬ a3 < 0) → ((¬ a1 = (4 : Int32)) → (((4 : Int32) ≤ a3) → Q σ (0 : Int32)) ∧ ((¬ (4 : Int32) ≤ a3) → Q σ (1 : Int32))) ∧ ((a1 = (4 : Int32)) → (((4 : Int32) ≤ a3) → Q σ (0 : Int32)) ∧ ((¬ (4 : Int32) ≤ a3) → Q σ (1 : Int32))))) ∧ ((a1 = (1 : Int32)) → MetI E mi_X1_knows [.ref 3, .int a3] σ (fun τ12 r13 => ((r13 = 0) → Q τ12 (0 : Int32)) ∧ ((¬ r13 = 0) → ((a3 = a2) → Q τ12 (0 : Int32)) ∧ ((¬ a3 = a2) → Q τ12 (1 : Int32))))))) : MetI E mi_X1_allows [.ref 3, .int a1, .int a2, .int a3] σ Q :=
 met_of (L := [some (.ref 3), some (.int a1), some (.int a2), some (.int a3)]) pn_X1 rfl (Nat.le_of_ble_eq_true rfl) <|
 x_iload_n dX1_allows_0 rfl <|
 x_if_eq (tgt := 9) dX1_allows_1 (by decide) (fun c1 => x_aload_n dX1_allows_9 rfl <|
 x_iload_n dX1_allows_10 rfl <|
 x_callV (b := 3) (As := [.int a3]) ok_X1_knows ml_X1_25 (okM (by decide)) dX1_allows_11 rfl rfl (Nat.le_of_ble_eq_true rfl) rfl rfl rfl (h.1 c1) <|
 (kI (fun τ2 r3 h4 => x_if_eq (tgt := 26) dX1_allows_14 (by decide) (fun c5 => x_iconst dX1_allows_26 ic_0 <|
 x_zreturn rfl (Or.inl rfl) dX1_allows_27 ⟨_, rfl, (h4.1 c5)⟩) (fun c5 => x_iload_n dX1_allows_17 rfl <|
 x_iload_n dX1_allows_18 rfl <|
 x_icmp_eq (tgt := 26) dX1_allows_19 (by decide) (fun c6 => x_iconst dX1_allows_26 ic_0 <|
 x_zreturn rfl (Or.inl rfl) dX1_allows_27 ⟨_, rfl, ((h4.2 c5).1 c6)⟩) (fun c6 => x_iconst dX1_allows_22 ic_1 <|
 x_goto (tgt := 27) dX1_allows_23 (by decide) <|
 x_zreturn rfl (Or.inr rfl) dX1_allows_27 ⟨_, rfl, ((h4.2 c5).2 c6)⟩))))) (fun c1 => x_iload_n dX1_allows_4 rfl <|
 x_iconst dX1_allows_5 ic_1 <|
 x_icmp_ne (tgt := 28) dX1_allows_6 (by decide) (fun c7 => x_iload_n dX1_allows_28 rfl <|
 x_if_lt (tgt := 50) dX1_allows_29 (by decide) (fun c8 => x_iconst dX1_allows_50 ic_0 <|
 x_zreturn rfl (Or.inl rfl) dX1_allows_51 ⟨_, rfl, (((h.2 c1).1 c7).1 c8)⟩) (fun c8 => x_iload_n dX1_allows_32 rfl <|
 x_iload_n dX1_allows_33 rfl <|
 x_iconst dX1_allows_34 ic_4 <|
 x_icmp_ne (tgt := 42) dX1_allows_35 (by decide) (fun c9 => x_iconst dX1_allows_42 ic_4 <|
 x_icmp_ge (tgt := 50) dX1_allows_43 (by decide) (fun c10 => x_iconst dX1_allows_50 ic_0 <|
 x_zreturn rfl (Or.inl rfl) dX1_allows_51 ⟨_, rfl, (((((h.2 c1).1 c7).2 c8).1 c9).1 c10)⟩) (fun c10 => x_iconst dX1_allows_46 ic_1 <|
 x_goto (tgt := 51) dX1_allows_47 (by decide) <|
 x_zreturn rfl (Or.inr rfl) dX1_allows_51 ⟨_, rfl, (((((h.2 c1).1 c7).2 c8).1 c9).2 c10)⟩)) (fun c9 => x_iconst dX1_allows_38 ic_4 <|
 x_goto (tgt := 43) dX1_allows_39 (by decide) <|
 x_icmp_ge (tgt := 50) dX1_allows_43 (by decide) (fun c11 => x_iconst dX1_allows_50 ic_0 <|
 x_zreturn rfl (Or.inl rfl) dX1_allows_51 ⟨_, rfl, (((((h.2 c1).1 c7).2 c8).2 c9).1 c11)⟩) (fun c11 => x_iconst dX1_allows_46 ic_1 <|
 x_goto (tgt := 51) dX1_allows_47 (by decide) <|
 x_zreturn rfl (Or.inr rfl) dX1_allows_51 ⟨_, rfl, (((((h.2 c1).1 c7).2 c8).2 c9).2 c11)⟩)))) (fun c7 => x_aload_n dX1_allows_9 rfl <|
 x_iload_n dX1_allows_10 rfl <|
 x_callV (b := 3) (As := [.int a3]) ok_X1_knows ml_X1_25 (okM (by decide)) dX1_allows_11 rfl rfl (Nat.le_of_ble_eq_true rfl) rfl rfl rfl ((h.2 c1).2 c7) <|
 (kI (fun τ12 r13 h14 => x_if_eq (tgt := 26) dX1_allows_14 (by decide) (fun c15 => x_iconst dX1_allows_26 ic_0 <|
 x_zreturn rfl (Or.inl rfl) dX1_allows_27 ⟨_, rfl, (h14.1 c15)⟩) (fun c15 => x_iload_n dX1_allows_17 rfl <|
 x_iload_n dX1_allows_18 rfl <|
 x_icmp_eq (tgt := 26) dX1_allows_19 (by decide) (fun c16 => x_iconst dX1_allows_26 ic_0 <|
 x_zreturn rfl (Or.inl rfl) dX1_allows_27 ⟨_, rfl, ((h14.2 c15).1 c16)⟩) (fun c16 => x_iconst dX1_allows_22 ic_1 <|
 x_goto (tgt := 27) dX1_allows_23 (by decide) <|
 x_zreturn rfl (Or.inr rfl) dX1_allows_27 ⟨_, rfl, ((h14.2 c15).2 c16)⟩))))))
set_option maxRecDepth 100000 in
set_option maxHeartbeats 4000000 in
theorem M_X0_hasRoomFor_5 {E : EV} {Q : Sg → Int32 → Prop} {σ : Sg} {a1 : Int32} (h : (((40 : Int32) ≤ (gi σ 505)) → Q σ (0 : Int32)) ∧ ((¬ (40 : Int32) ≤ (gi σ 505)) → ((¬ a1 = (1 : Int32)) → Q σ (1 : Int32)) ∧ ((a1 = (1 : Int32)) → (((6 : Int32) ≤ (gi σ 506)) → Q σ (0 : Int32)) ∧ ((¬ (6 : Int32) ≤ (gi σ 506)) → Q σ (1 : Int32))))) : MetI E mi_X0_hasRoomFor [.ref 5, .int a1] σ Q :=
 met_of (L := [some (.ref 5), some (.int a1)]) pn_X0 rfl (Nat.le_of_ble_eq_true rfl) <|
 x_aload_n dX0_hasRoomFor_0 rfl <|
 x_getf (v := .int (gi σ 505)) fl_X0_27 rfl rfl rfl dX0_hasRoomFor_1 <|
 x_bipush dX0_hasRoomFor_4 bp_40 <|
 x_icmp_ge (tgt := 27) dX0_hasRoomFor_6 (by decide) (fun c1 => x_iconst dX0_hasRoomFor_27 ic_0 <|
 x_zreturn rfl (Or.inl rfl) dX0_hasRoomFor_28 ⟨_, rfl, (h.1 c1)⟩) (fun c1 => x_iload_n dX0_hasRoomFor_9 rfl <|
 x_iconst dX0_hasRoomFor_10 ic_1 <|
 x_icmp_ne (tgt := 23) dX0_hasRoomFor_11 (by decide) (fun c2 => x_iconst dX0_hasRoomFor_23 ic_1 <|
 x_goto (tgt := 28) dX0_hasRoomFor_24 (by decide) <|
 x_zreturn rfl (Or.inr rfl) dX0_hasRoomFor_28 ⟨_, rfl, ((h.2 c1).1 c2)⟩) (fun c2 => x_aload_n dX0_hasRoomFor_14 rfl <|
 x_getf (v := .int (gi σ 506)) fl_X0_31 rfl rfl rfl dX0_hasRoomFor_15 <|
 x_bipush dX0_hasRoomFor_18 bp_6 <|
 x_icmp_ge (tgt := 27) dX0_hasRoomFor_20 (by decide) (fun c3 => x_iconst dX0_hasRoomFor_27 ic_0 <|
 x_zreturn rfl (Or.inl rfl) dX0_hasRoomFor_28 ⟨_, rfl, (((h.2 c1).2 c2).1 c3)⟩) (fun c3 => x_iconst dX0_hasRoomFor_23 ic_1 <|
 x_goto (tgt := 28) dX0_hasRoomFor_24 (by decide) <|
 x_zreturn rfl (Or.inr rfl) dX0_hasRoomFor_28 ⟨_, rfl, (((h.2 c1).2 c2).2 c3)⟩)))
set_option maxRecDepth 100000 in
set_option maxHeartbeats 4000000 in
theorem M_X0_add_5 {E : EV} {Q : Sg → Prop} {σ : Sg} {a1 : Int32} {a2 : Int32} {a3 : Int32} (h : MetI E mi_X0_hasRoomFor [.ref 5, .int a1] σ (fun τ1 r2 => ((¬ r2 = 0) → vp_in (gi τ1 505) 40 ∧ ((¬ a1 = (1 : Int32)) → Q (si (sm (sm (sm (sm (sm τ1 6 (gi τ1 505).toNatClampNeg a1) 7 (gi τ1 505).toNatClampNeg (gi τ1 507)) 8 (gi τ1 505).toNatClampNeg a2) 9 (gi τ1 505).toNatClampNeg a3) 10 (gi τ1 505).toNatClampNeg (0 : Int32)) 505 ((gi τ1 505) + (1 : Int32)))) ∧ ((a1 = (1 : Int32)) → Q (si (si (sm (sm (sm (sm (sm τ1 6 (gi τ1 505).toNatClampNeg a1) 7 (gi τ1 505).toNatClampNeg (gi τ1 507)) 8 (gi τ1 505).toNatClampNeg a2) 9 (gi τ1 505).toNatClampNeg a3) 10 (gi τ1 505).toNatClampNeg ((1 : Int32) <<< ((gi τ1 506) &&& 31))) 506 ((gi τ1 506) + (1 : Int32))) 505 ((gi τ1 505) + (1 : Int32))))) ∧ ((r2 = 0) → Q τ1))) : MetV E mi_X0_add [.ref 5, .int a1, .int a2, .int a3] σ Q :=
 met_of (L := [some (.ref 5), some (.int a1), some (.int a2), some (.int a3)]) pn_X0 rfl (Nat.le_of_ble_eq_true rfl) <|
 x_aload_n dX0_add_0 rfl <|
 x_iload_n dX0_add_1 rfl <|
 x_callV (b := 5) (As := [.int a1]) ok_X0_hasRoomFor ml_X0_37 (okM (by decide)) dX0_add_2 rfl rfl (Nat.le_of_ble_eq_true rfl) rfl rfl rfl h <|
 (kI (fun τ1 r2 h3 => x_if_ne (tgt := 9) dX0_add_5 (by decide) (fun c4 => x_aload_n dX0_add_9 rfl <|
 x_getf (v := .ref 6) fl_X0_9 rfl rfl rfl dX0_add_10 <|
 x_aload_n dX0_add_13 rfl <|
 x_getf (v := .int (gi τ1 505)) fl_X0_27 rfl rfl rfl dX0_add_14 <|
 x_iload_n dX0_add_17 rfl <|
 x_iastore rfl (h3.1 c4).1 dX0_add_18 <|
 x_aload_n dX0_add_19 rfl <|
 x_getf (v := .ref 7) fl_X0_15 rfl rfl rfl dX0_add_20 <|
 x_aload_n dX0_add_23 rfl <|
 x_getf (v := .int (gi τ1 505)) fl_X0_27 rfl rfl rfl dX0_add_24 <|
 x_aload_n dX0_add_27 rfl <|
 x_getf (v := .int (gi τ1 507)) fl_X0_34 rfl rfl rfl dX0_add_28 <|
 x_iastore rfl (h3.1 c4).1 dX0_add_31 <|
 x_aload_n dX0_add_32 rfl <|
 x_getf (v := .ref 8) fl_X0_18 rfl rfl rfl dX0_add_33 <|
 x_aload_n dX0_add_36 rfl <|
 x_getf (v := .int (gi τ1 505)) fl_X0_27 rfl rfl rfl dX0_add_37 <|
 x_iload_n dX0_add_40 rfl <|
 x_iastore rfl (h3.1 c4).1 dX0_add_41 <|
 x_aload_n dX0_add_42 rfl <|
 x_getf (v := .ref 9) fl_X0_21 rfl rfl rfl dX0_add_43 <|
 x_aload_n dX0_add_46 rfl <|
 x_getf (v := .int (gi τ1 505)) fl_X0_27 rfl rfl rfl dX0_add_47 <|
 x_iload_n dX0_add_50 rfl <|
 x_iastore rfl (h3.1 c4).1 dX0_add_51 <|
 x_aload_n dX0_add_52 rfl <|
 x_getf (v := .ref 10) fl_X0_24 rfl rfl rfl dX0_add_53 <|
 x_aload_n dX0_add_56 rfl <|
 x_getf (v := .int (gi τ1 505)) fl_X0_27 rfl rfl rfl dX0_add_57 <|
 x_iload_n dX0_add_60 rfl <|
 x_iconst dX0_add_61 ic_1 <|
 x_icmp_ne (tgt := 74) dX0_add_62 (by decide) (fun c5 => x_iconst dX0_add_74 ic_0 <|
 x_iastore rfl (h3.1 c4).1 dX0_add_75 <|
 x_iload_n dX0_add_76 rfl <|
 x_iconst dX0_add_77 ic_1 <|
 x_icmp_ne (tgt := 91) dX0_add_78 (by decide) (fun _ => x_aload_n dX0_add_91 rfl <|
 x_dup dX0_add_92 rfl <|
 x_getf (v := .int (gi τ1 505)) fl_X0_27 rfl rfl rfl dX0_add_93 <|
 x_iconst dX0_add_96 ic_1 <|
 x_iadd dX0_add_97 <|
 x_puti fp_X0_27 rfl rfl dX0_add_98 <|
 x_return rfl dX0_add_101 ⟨rfl, ((h3.1 c4).2.1 c5)⟩) (fun c => absurd c c5)) (fun c5 => x_iconst dX0_add_65 ic_1 <|
 x_aload_n dX0_add_66 rfl <|
 x_getf (v := .int (gi τ1 506)) fl_X0_31 rfl rfl rfl dX0_add_67 <|
 x_ishl dX0_add_70 <|
 x_goto (tgt := 75) dX0_add_71 (by decide) <|
 x_iastore rfl (h3.1 c4).1 dX0_add_75 <|
 x_iload_n dX0_add_76 rfl <|
 x_iconst dX0_add_77 ic_1 <|
 x_icmp_ne (tgt := 91) dX0_add_78 (by decide) (fun c => absurd c5 c) (fun _ => x_aload_n dX0_add_81 rfl <|
 x_dup dX0_add_82 rfl <|
 x_getf (v := .int (gi τ1 506)) fl_X0_31 rfl rfl rfl dX0_add_83 <|
 x_iconst dX0_add_86 ic_1 <|
 x_iadd dX0_add_87 <|
 x_puti fp_X0_31 rfl rfl dX0_add_88 <|
 x_aload_n dX0_add_91 rfl <|
 x_dup dX0_add_92 rfl <|
 x_getf (v := .int (gi τ1 505)) fl_X0_27 rfl rfl rfl dX0_add_93 <|
 x_iconst dX0_add_96 ic_1 <|
 x_iadd dX0_add_97 <|
 x_puti fp_X0_27 rfl rfl dX0_add_98 <|
 x_return rfl dX0_add_101 ⟨rfl, ((h3.1 c4).2.2 c5)⟩))) (fun c4 => x_return rfl dX0_add_8 ⟨rfl, (h3.2 c4)⟩)))
set_option maxRecDepth 100000 in
set_option maxHeartbeats 4000000 in
theorem M_X0_dropLast_5 {E : EV} {Q : Sg → Prop} {σ : Sg} (h : (((gi σ 505) ≤ 0) → Q σ) ∧ ((¬ (gi σ 505) ≤ 0) → vp_in ((gi σ 505) - (1 : Int32)) 40 ∧ ((¬ ((gm σ 6) ((gi σ 505) - (1 : Int32)).toNatClampNeg) = (1 : Int32)) → Q (si σ 505 ((gi σ 505) - (1 : Int32)))) ∧ ((((gm σ 6) ((gi σ 505) - (1 : Int32)).toNatClampNeg) = (1 : Int32)) → Q (si (si σ 505 ((gi σ 505) - (1 : Int32))) 506 ((gi σ 506) - (1 : Int32)))))) : MetV E mi_X0_dropLast [.ref 5] σ Q :=
 met_of (L := [some (.ref 5)]) pn_X0 rfl (Nat.le_of_ble_eq_true rfl) <|
 x_aload_n dX0_dropLast_0 rfl <|
 x_getf (v := .int (gi σ 505)) fl_X0_27 rfl rfl rfl dX0_dropLast_1 <|
 x_if_le (tgt := 40) dX0_dropLast_4 (by decide) (fun c1 => x_return rfl dX0_dropLast_40 ⟨rfl, (h.1 c1)⟩) (fun c1 => x_aload_n dX0_dropLast_7 rfl <|
 x_dup dX0_dropLast_8 rfl <|
 x_getf (v := .int (gi σ 505)) fl_X0_27 rfl rfl rfl dX0_dropLast_9 <|
 x_iconst dX0_dropLast_12 ic_1 <|
 x_isub dX0_dropLast_13 <|
 x_puti fp_X0_27 rfl rfl dX0_dropLast_14 <|
 x_aload_n dX0_dropLast_17 rfl <|
 x_getf (v := .ref 6) fl_X0_9 rfl rfl rfl dX0_dropLast_18 <|
 x_aload_n dX0_dropLast_21 rfl <|
 x_getf (v := .int ((gi σ 505) - (1 : Int32))) fl_X0_27 rfl rfl rfl dX0_dropLast_22 <|
 x_iaload (v := ((gm σ 6) ((gi σ 505) - (1 : Int32)).toNatClampNeg)) rfl (h.2 c1).1 rfl dX0_dropLast_25 <|
 x_iconst dX0_dropLast_26 ic_1 <|
 x_icmp_ne (tgt := 40) dX0_dropLast_27 (by decide) (fun c2 => x_return rfl dX0_dropLast_40 ⟨rfl, ((h.2 c1).2.1 c2)⟩) (fun c2 => x_aload_n dX0_dropLast_30 rfl <|
 x_dup dX0_dropLast_31 rfl <|
 x_getf (v := .int (gi σ 506)) fl_X0_31 rfl rfl rfl dX0_dropLast_32 <|
 x_iconst dX0_dropLast_35 ic_1 <|
 x_isub dX0_dropLast_36 <|
 x_puti fp_X0_31 rfl rfl dX0_dropLast_37 <|
 x_return rfl dX0_dropLast_40 ⟨rfl, ((h.2 c1).2.2 c2)⟩))
def K_X3_begin_36_3_2 (E : EV) (Q : Sg → Prop) (σ : Sg) (v2 : Int32) (v3 : Int32) : Prop := J E mi_X3_begin (tgM E mi_X3_begin (qV Q)) 2 [some (.ref 36), some (.ref 3), some (.int v2), some (.int v3)] [] σ
set_option maxRecDepth 100000 in
set_option maxHeartbeats 4000000 in
theorem B_X3_begin_36_3_2 {E : EV} {Q : Sg → Prop} {σ : Sg} {v2 : Int32} {v3 : Int32} (h : (((8 : Int32) ≤ v3) → Q (si (si (si (si (si σ 3603 (gi σ 301)) 3604 v2) 3605 (-9 : Int32)) 3606 (-9 : Int32)) 3607 (0 : Int32))) ∧ ((¬ (8 : Int32) ≤ v3) → vp_in v3 8 ∧ K_X3_begin_36_3_2 E Q (sm (sm (sm σ 37 v3.toNatClampNeg ((gm σ 4) v3.toNatClampNeg)) 38 v3.toNatClampNeg (0 : Int32)) 39 v3.toNatClampNeg (0 : Int32)) v2 (v3 + 1))) : K_X3_begin_36_3_2 E Q σ v2 v3 :=
 x_iload_n dX3_begin_2 rfl <|
 x_bipush dX3_begin_3 bp_8 <|
 x_icmp_ge (tgt := 40) dX3_begin_5 (by decide) (fun c1 => x_aload_n dX3_begin_40 rfl <|
 x_aload_n dX3_begin_41 rfl <|
 x_getf (v := .int (gi σ 301)) fl_X3_42 rfl rfl rfl dX3_begin_42 <|
 x_puti fp_X3_21 rfl rfl dX3_begin_45 <|
 x_aload_n dX3_begin_48 rfl <|
 x_iload_n dX3_begin_49 rfl <|
 x_puti fp_X3_25 rfl rfl dX3_begin_50 <|
 x_aload_n dX3_begin_53 rfl <|
 x_bipush dX3_begin_54 bp_m9 <|
 x_puti fp_X3_28 rfl rfl dX3_begin_56 <|
 x_aload_n dX3_begin_59 rfl <|
 x_bipush dX3_begin_60 bp_m9 <|
 x_puti fp_X3_31 rfl rfl dX3_begin_62 <|
 x_aload_n dX3_begin_65 rfl <|
 x_iconst dX3_begin_66 ic_0 <|
 x_puti fp_X3_34 rfl rfl dX3_begin_67 <|
 x_return rfl dX3_begin_70 ⟨rfl, (h.1 c1)⟩) (fun c1 => x_aload_n dX3_begin_8 rfl <|
 x_getf (v := .ref 37) fl_X3_9 rfl rfl rfl dX3_begin_9 <|
 x_iload_n dX3_begin_12 rfl <|
 x_aload_n dX3_begin_13 rfl <|
 x_getf (v := .ref 4) fl_X3_37 rfl rfl rfl dX3_begin_14 <|
 x_iload_n dX3_begin_17 rfl <|
 x_iaload (v := ((gm σ 4) v3.toNatClampNeg)) rfl (h.2 c1).1 rfl dX3_begin_18 <|
 x_iastore rfl (h.2 c1).1 dX3_begin_19 <|
 x_aload_n dX3_begin_20 rfl <|
 x_getf (v := .ref 38) fl_X3_15 rfl rfl rfl dX3_begin_21 <|
 x_iload_n dX3_begin_24 rfl <|
 x_iconst dX3_begin_25 ic_0 <|
 x_iastore rfl (h.2 c1).1 dX3_begin_26 <|
 x_aload_n dX3_begin_27 rfl <|
 x_getf (v := .ref 39) fl_X3_18 rfl rfl rfl dX3_begin_28 <|
 x_iload_n dX3_begin_31 rfl <|
 x_iconst dX3_begin_32 ic_0 <|
 x_iastore rfl (h.2 c1).1 dX3_begin_33 <|
 x_iinc (v := (v3 + 1)) (L2 := [some (.ref 36), some (.ref 3), some (.int v2), some (.int (v3 + 1))]) dX3_begin_34 rfl (by rw [show Int32.ofInt (1) = 1 by decide]) rfl (Nat.le_of_ble_eq_true rfl) <|
 x_goto (tgt := 2) dX3_begin_37 (by decide) <|
 (h.2 c1).2)
set_option maxRecDepth 100000 in
set_option maxHeartbeats 4000000 in
theorem M_X3_begin_36_3 {E : EV} {Q : Sg → Prop} {σ : Sg} {a2 : Int32} (h : K_X3_begin_36_3_2 E Q σ a2 (0 : Int32)) : MetV E mi_X3_begin [.ref 36, .ref 3, .int a2] σ Q :=
 met_of (L := [some (.ref 36), some (.ref 3), some (.int a2), none]) pn_X3 rfl (Nat.le_of_ble_eq_true rfl) <|
 x_iconst dX3_begin_0 ic_0 <|
 x_istore_n (L2 := [some (.ref 36), some (.ref 3), some (.int a2), some (.int (0 : Int32))]) dX3_begin_1 rfl (Nat.le_of_ble_eq_true rfl) <|
 h
set_option maxRecDepth 100000 in
set_option maxHeartbeats 4000000 in
theorem M_X3_think_36 {E : EV} {Q : Sg → Prop} {σ : Sg} {a1 : Int32} (h : vp_in a1 8 ∧ ((¬ ((gm σ 38) a1.toNatClampNeg) = 0) → Q σ) ∧ ((((gm σ 38) a1.toNatClampNeg) = 0) → Q (sm σ 38 a1.toNatClampNeg ((1 : Int32) <<< (a1 &&& 31))))) : MetV E mi_X3_think [.ref 36, .int a1] σ Q :=
 met_of (L := [some (.ref 36), some (.int a1)]) pn_X3 rfl (Nat.le_of_ble_eq_true rfl) <|
 x_aload_n dX3_think_0 rfl <|
 x_getf (v := .ref 38) fl_X3_15 rfl rfl rfl dX3_think_1 <|
 x_iload_n dX3_think_4 rfl <|
 x_iaload (v := ((gm σ 38) a1.toNatClampNeg)) rfl h.1 rfl dX3_think_5 <|
 x_if_ne (tgt := 18) dX3_think_6 (by decide) (fun c1 => x_return rfl dX3_think_18 ⟨rfl, (h.2.1 c1)⟩) (fun c1 => x_aload_n dX3_think_9 rfl <|
 x_getf (v := .ref 38) fl_X3_15 rfl rfl rfl dX3_think_10 <|
 x_iload_n dX3_think_13 rfl <|
 x_iconst dX3_think_14 ic_1 <|
 x_iload_n dX3_think_15 rfl <|
 x_ishl dX3_think_16 <|
 x_iastore rfl h.1 dX3_think_17 <|
 x_return rfl dX3_think_18 ⟨rfl, (h.2.2 c1)⟩)
def K_X3_leastThird_36_2 (E : EV) (Q : Sg → Int32 → Prop) (σ : Sg) (v1 : Int32) (v2 : Int32) (v3 : Int32) : Prop := J E mi_X3_leastThird (tgM E mi_X3_leastThird (qI Q)) 2 [some (.ref 36), some (.int v1), some (.int v2), some (.int v3)] [] σ
set_option maxRecDepth 100000 in
set_option maxHeartbeats 4000000 in
theorem B_X3_leastThird_36_2 {E : EV} {Q : Sg → Int32 → Prop} {σ : Sg} {v1 : Int32} {v2 : Int32} {v3 : Int32} (h : (((gi σ 3603) ≤ v3) → Q σ (0 : Int32)) ∧ ((¬ (gi σ 3603) ≤ v3) → vp_in v3 8 ∧ ((((gm σ 39) v3.toNatClampNeg) = 0) → K_X3_leastThird_36_2 E Q σ v1 v2 (v3 + 1)) ∧ ((¬ ((gm σ 39) v3.toNatClampNeg) = 0) → ((¬ (((gm σ 39) v3.toNatClampNeg) &&& v2) = 0) → K_X3_leastThird_36_2 E Q σ v1 v2 (v3 + 1)) ∧ (((((gm σ 39) v3.toNatClampNeg) &&& v2) = 0) → Q σ ((1 : Int32) <<< (v3 &&& 31)))))) : K_X3_leastThird_36_2 E Q σ v1 v2 v3 :=
 x_iload_n dX3_leastThird_2 rfl <|
 x_aload_n dX3_leastThird_3 rfl <|
 x_getf (v := .int (gi σ 3603)) fl_X3_21 rfl rfl rfl dX3_leastThird_4 <|
 x_icmp_ge (tgt := 40) dX3_leastThird_7 (by decide) (fun c1 => x_iconst dX3_leastThird_40 ic_0 <|
 x_ireturn rfl dX3_leastThird_41 ⟨_, rfl, (h.1 c1)⟩) (fun c1 => x_aload_n dX3_leastThird_10 rfl <|
 x_getf (v := .ref 39) fl_X3_18 rfl rfl rfl dX3_leastThird_11 <|
 x_iload_n dX3_leastThird_14 rfl <|
 x_iaload (v := ((gm σ 39) v3.toNatClampNeg)) rfl (h.2 c1).1 rfl dX3_leastThird_15 <|
 x_if_eq (tgt := 34) dX3_leastThird_16 (by decide) (fun c2 => x_iinc (v := (v3 + 1)) (L2 := [some (.ref 36), some (.int v1), some (.int v2), some (.int (v3 + 1))]) dX3_leastThird_34 rfl (by rw [show Int32.ofInt (1) = 1 by decide]) rfl (Nat.le_of_ble_eq_true rfl) <|
 x_goto (tgt := 2) dX3_leastThird_37 (by decide) <|
 ((h.2 c1).2.1 c2)) (fun c2 => x_aload_n dX3_leastThird_19 rfl <|
 x_getf (v := .ref 39) fl_X3_18 rfl rfl rfl dX3_leastThird_20 <|
 x_iload_n dX3_leastThird_23 rfl <|
 x_iaload (v := ((gm σ 39) v3.toNatClampNeg)) rfl (h.2 c1).1 rfl dX3_leastThird_24 <|
 x_iload_n dX3_leastThird_25 rfl <|
 x_iand dX3_leastThird_26 <|
 x_if_ne (tgt := 34) dX3_leastThird_27 (by decide) (fun c3 => x_iinc (v := (v3 + 1)) (L2 := [some (.ref 36), some (.int v1), some (.int v2), some (.int (v3 + 1))]) dX3_leastThird_34 rfl (by rw [show Int32.ofInt (1) = 1 by decide]) rfl (Nat.le_of_ble_eq_true rfl) <|
 x_goto (tgt := 2) dX3_leastThird_37 (by decide) <|
 (((h.2 c1).2.2 c2).1 c3)) (fun c3 => x_iconst dX3_leastThird_30 ic_1 <|
 x_iload_n dX3_leastThird_31 rfl <|
 x_ishl dX3_leastThird_32 <|
 x_ireturn rfl dX3_leastThird_33 ⟨_, rfl, (((h.2 c1).2.2 c2).2 c3)⟩)))
set_option maxRecDepth 100000 in
set_option maxHeartbeats 4000000 in
theorem M_X3_leastThird_36 {E : EV} {Q : Sg → Int32 → Prop} {σ : Sg} {a1 : Int32} {a2 : Int32} (h : K_X3_leastThird_36_2 E Q σ a1 a2 a1) : MetI E mi_X3_leastThird [.ref 36, .int a1, .int a2] σ Q :=
 met_of (L := [some (.ref 36), some (.int a1), some (.int a2), none]) pn_X3 rfl (Nat.le_of_ble_eq_true rfl) <|
 x_iload_n dX3_leastThird_0 rfl <|
 x_istore_n (L2 := [some (.ref 36), some (.int a1), some (.int a2), some (.int a1)]) dX3_leastThird_1 rfl (Nat.le_of_ble_eq_true rfl) <|
 h
def K_X3_leastThree_36_2 (E : EV) (Q : Sg → Int32 → Prop) (σ : Sg) (v1 : Int32) : Prop := J E mi_X3_leastThree (tgM E mi_X3_leastThree (qI Q)) 2 [some (.ref 36), some (.int v1), none, none] [] σ
def K_X3_leastThree_36_14 (E : EV) (Q : Sg → Int32 → Prop) (σ : Sg) (v1 : Int32) (v2 : Int32) : Prop := J E mi_X3_leastThree (tgM E mi_X3_leastThree (qI Q)) 14 [some (.ref 36), some (.int v1), some (.int v2), none] [] σ
set_option maxRecDepth 100000 in
set_option maxHeartbeats 4000000 in
theorem B_X3_leastThree_36_2 {E : EV} {Q : Sg → Int32 → Prop} {σ : Sg} {v1 : Int32} (h : (((gi σ 3603) ≤ v1) → Q σ (0 : Int32)) ∧ ((¬ (gi σ 3603) ≤ v1) → K_X3_leastThree_36_14 E Q σ v1 (v1 + (1 : Int32)))) : K_X3_leastThree_36_2 E Q σ v1 :=
 x_iload_n dX3_leastThree_2 rfl <|
 x_aload_n dX3_leastThree_3 rfl <|
 x_getf (v := .int (gi σ 3603)) fl_X3_21 rfl rfl rfl dX3_leastThree_4 <|
 x_icmp_ge (tgt := 103) dX3_leastThree_7 (by decide) (fun c1 => x_iconst dX3_leastThree_103 ic_0 <|
 x_ireturn rfl dX3_leastThree_104 ⟨_, rfl, (h.1 c1)⟩) (fun c1 => x_iload_n dX3_leastThree_10 rfl <|
 x_iconst dX3_leastThree_11 ic_1 <|
 x_iadd dX3_leastThree_12 <|
 x_istore_n (L2 := [some (.ref 36), some (.int v1), some (.int (v1 + (1 : Int32))), none]) dX3_leastThree_13 rfl (Nat.le_of_ble_eq_true rfl) <|
 (h.2 c1))
set_option maxRecDepth 100000 in
set_option maxHeartbeats 4000000 in
theorem B_X3_leastThree_36_14 {E : EV} {Q : Sg → Int32 → Prop} {σ : Sg} {v1 : Int32} {v2 : Int32} (h : (((gi σ 3603) ≤ v2) → K_X3_leastThree_36_2 E Q σ (v1 + 1)) ∧ ((¬ (gi σ 3603) ≤ v2) → vp_in v1 8 ∧ ((((gm σ 39) v1.toNatClampNeg) = 0) → K_X3_leastThree_36_2 E Q σ (v1 + 1)) ∧ ((¬ ((gm σ 39) v1.toNatClampNeg) = 0) → vp_in v2 8 ∧ ((((gm σ 39) v2.toNatClampNeg) = 0) → K_X3_leastThree_36_14 E Q σ v1 (v2 + 1)) ∧ ((¬ ((gm σ 39) v2.toNatClampNeg) = 0) → ((¬ (((gm σ 39) v1.toNatClampNeg) &&& ((gm σ 39) v2.toNatClampNeg)) = 0) → K_X3_leastThree_36_14 E Q σ v1 (v2 + 1)) ∧ (((((gm σ 39) v1.toNatClampNeg) &&& ((gm σ 39) v2.toNatClampNeg)) = 0) → MetI E mi_X3_leastThird [.ref 36, .int (v2 + (1 : Int32)), .int (((gm σ 39) v1.toNatClampNeg) ||| ((gm σ 39) v2.toNatClampNeg))] σ (fun τ5 r6 => ((r6 = 0) → K_X3_leastThree_36_14 E Q τ5 v1 (v2 + 1)) ∧ ((¬ r6 = 0) → Q τ5 ((((1 : Int32) <<< (v1 &&& 31)) ||| ((1 : Int32) <<< (v2 &&& 31))) ||| r6)))))))) : K_X3_leastThree_36_14 E Q σ v1 v2 :=
 x_iload_n dX3_leastThree_14 rfl <|
 x_aload_n dX3_leastThree_15 rfl <|
 x_getf (v := .int (gi σ 3603)) fl_X3_21 rfl rfl rfl dX3_leastThree_16 <|
 x_icmp_ge (tgt := 97) dX3_leastThree_19 (by decide) (fun c1 => x_iinc (v := (v1 + 1)) (L2 := [some (.ref 36), some (.int (v1 + 1)), some (.int v2), none]) dX3_leastThree_97 rfl (by rw [show Int32.ofInt (1) = 1 by decide]) rfl (Nat.le_of_ble_eq_true rfl) <|
 x_goto (tgt := 2) dX3_leastThree_100 (by decide) <|
 x_sub (L2 := [some (.ref 36), some (.int (v1 + 1)), none, none]) ⟨rfl, rfl, trivial⟩ (h.1 c1)) (fun c1 => x_aload_n dX3_leastThree_22 rfl <|
 x_getf (v := .ref 39) fl_X3_18 rfl rfl rfl dX3_leastThree_23 <|
 x_iload_n dX3_leastThree_26 rfl <|
 x_iaload (v := ((gm σ 39) v1.toNatClampNeg)) rfl (h.2 c1).1 rfl dX3_leastThree_27 <|
 x_if_eq (tgt := 97) dX3_leastThree_28 (by decide) (fun c2 => x_iinc (v := (v1 + 1)) (L2 := [some (.ref 36), some (.int (v1 + 1)), some (.int v2), none]) dX3_leastThree_97 rfl (by rw [show Int32.ofInt (1) = 1 by decide]) rfl (Nat.le_of_ble_eq_true rfl) <|
 x_goto (tgt := 2) dX3_leastThree_100 (by decide) <|
 x_sub (L2 := [some (.ref 36), some (.int (v1 + 1)), none, none]) ⟨rfl, rfl, trivial⟩ ((h.2 c1).2.1 c2)) (fun c2 => x_aload_n dX3_leastThree_31 rfl <|
 x_getf (v := .ref 39) fl_X3_18 rfl rfl rfl dX3_leastThree_32 <|
 x_iload_n dX3_leastThree_35 rfl <|
 x_iaload (v := ((gm σ 39) v2.toNatClampNeg)) rfl ((h.2 c1).2.2 c2).1 rfl dX3_leastThree_36 <|
 x_if_eq (tgt := 91) dX3_leastThree_37 (by decide) (fun c3 => x_iinc (v := (v2 + 1)) (L2 := [some (.ref 36), some (.int v1), some (.int (v2 + 1)), none]) dX3_leastThree_91 rfl (by rw [show Int32.ofInt (1) = 1 by decide]) rfl (Nat.le_of_ble_eq_true rfl) <|
 x_goto (tgt := 14) dX3_leastThree_94 (by decide) <|
 (((h.2 c1).2.2 c2).2.1 c3)) (fun c3 => x_aload_n dX3_leastThree_40 rfl <|
 x_getf (v := .ref 39) fl_X3_18 rfl rfl rfl dX3_leastThree_41 <|
 x_iload_n dX3_leastThree_44 rfl <|
 x_iaload (v := ((gm σ 39) v1.toNatClampNeg)) rfl (h.2 c1).1 rfl dX3_leastThree_45 <|
 x_aload_n dX3_leastThree_46 rfl <|
 x_getf (v := .ref 39) fl_X3_18 rfl rfl rfl dX3_leastThree_47 <|
 x_iload_n dX3_leastThree_50 rfl <|
 x_iaload (v := ((gm σ 39) v2.toNatClampNeg)) rfl ((h.2 c1).2.2 c2).1 rfl dX3_leastThree_51 <|
 x_iand dX3_leastThree_52 <|
 x_if_ne (tgt := 91) dX3_leastThree_53 (by decide) (fun c4 => x_iinc (v := (v2 + 1)) (L2 := [some (.ref 36), some (.int v1), some (.int (v2 + 1)), none]) dX3_leastThree_91 rfl (by rw [show Int32.ofInt (1) = 1 by decide]) rfl (Nat.le_of_ble_eq_true rfl) <|
 x_goto (tgt := 14) dX3_leastThree_94 (by decide) <|
 ((((h.2 c1).2.2 c2).2.2 c3).1 c4)) (fun c4 => x_aload_n dX3_leastThree_56 rfl <|
 x_iload_n dX3_leastThree_57 rfl <|
 x_iconst dX3_leastThree_58 ic_1 <|
 x_iadd dX3_leastThree_59 <|
 x_aload_n dX3_leastThree_60 rfl <|
 x_getf (v := .ref 39) fl_X3_18 rfl rfl rfl dX3_leastThree_61 <|
 x_iload_n dX3_leastThree_64 rfl <|
 x_iaload (v := ((gm σ 39) v1.toNatClampNeg)) rfl (h.2 c1).1 rfl dX3_leastThree_65 <|
 x_aload_n dX3_leastThree_66 rfl <|
 x_getf (v := .ref 39) fl_X3_18 rfl rfl rfl dX3_leastThree_67 <|
 x_iload_n dX3_leastThree_70 rfl <|
 x_iaload (v := ((gm σ 39) v2.toNatClampNeg)) rfl ((h.2 c1).2.2 c2).1 rfl dX3_leastThree_71 <|
 x_ior dX3_leastThree_72 <|
 x_callV (b := 36) (As := [.int (v2 + (1 : Int32)), .int (((gm σ 39) v1.toNatClampNeg) ||| ((gm σ 39) v2.toNatClampNeg))]) ok_X3_leastThird ml_X3_85 (okM (by decide)) dX3_leastThree_73 rfl rfl (Nat.le_of_ble_eq_true rfl) rfl rfl rfl ((((h.2 c1).2.2 c2).2.2 c3).2 c4) <|
 (kI (fun τ5 r6 h7 => x_istore_n (L2 := [some (.ref 36), some (.int v1), some (.int v2), some (.int r6)]) dX3_leastThree_76 rfl (Nat.le_of_ble_eq_true rfl) <|
 x_iload_n dX3_leastThree_77 rfl <|
 x_if_eq (tgt := 91) dX3_leastThree_78 (by decide) (fun c8 => x_iinc (v := (v2 + 1)) (L2 := [some (.ref 36), some (.int v1), some (.int (v2 + 1)), some (.int r6)]) dX3_leastThree_91 rfl (by rw [show Int32.ofInt (1) = 1 by decide]) rfl (Nat.le_of_ble_eq_true rfl) <|
 x_goto (tgt := 14) dX3_leastThree_94 (by decide) <|
 x_sub (L2 := [some (.ref 36), some (.int v1), some (.int (v2 + 1)), none]) ⟨rfl, rfl, rfl, trivial⟩ (h7.1 c8)) (fun c8 => x_iconst dX3_leastThree_81 ic_1 <|
 x_iload_n dX3_leastThree_82 rfl <|
 x_ishl dX3_leastThree_83 <|
 x_iconst dX3_leastThree_84 ic_1 <|
 x_iload_n dX3_leastThree_85 rfl <|
 x_ishl dX3_leastThree_86 <|
 x_ior dX3_leastThree_87 <|
 x_iload_n dX3_leastThree_88 rfl <|
 x_ior dX3_leastThree_89 <|
 x_ireturn rfl dX3_leastThree_90 ⟨_, rfl, (h7.2 c8)⟩)))))))
set_option maxRecDepth 100000 in
set_option maxHeartbeats 4000000 in
theorem M_X3_leastThree_36 {E : EV} {Q : Sg → Int32 → Prop} {σ : Sg} (h : K_X3_leastThree_36_2 E Q σ (0 : Int32)) : MetI E mi_X3_leastThree [.ref 36] σ Q :=
 met_of (L := [some (.ref 36), none, none, none]) pn_X3 rfl (Nat.le_of_ble_eq_true rfl) <|
 x_iconst dX3_leastThree_0 ic_0 <|
 x_istore_n (L2 := [some (.ref 36), some (.int (0 : Int32)), none, none]) dX3_leastThree_1 rfl (Nat.le_of_ble_eq_true rfl) <|
 h
def K_X3_say_36_60 (E : EV) (Q : Sg → Prop) (σ : Sg) (v1 : Int32) (v2 : Int32) (v3 : Int32) : Prop := J E mi_X3_say (tgM E mi_X3_say (qV Q)) 60 [some (.ref 36), some (.int v1), some (.int v2), some (.int v3)] [] σ
set_option maxRecDepth 100000 in
set_option maxHeartbeats 4000000 in
theorem B_X3_say_36_60 {E : EV} {Q : Sg → Prop} {σ : Sg} {v1 : Int32} {v2 : Int32} {v3 : Int32} (h : (((gi σ 3603) ≤ v3) → Q σ) ∧ ((¬ (gi σ 3603) ≤ v3) → vp_in v3 8 ∧ vp_in v1 8 ∧ ((¬ ((gm σ 37) v3.toNatClampNeg) = ((gm σ 37) v1.toNatClampNeg)) → K_X3_say_36_60 E Q σ v1 v2 (v3 + 1)) ∧ ((((gm σ 37) v3.toNatClampNeg) = ((gm σ 37) v1.toNatClampNeg)) → K_X3_say_36_60 E Q (sm σ 38 v3.toNatClampNeg (((gm σ 38) v3.toNatClampNeg) ||| ((gm σ 38) v1.toNatClampNeg))) v1 v2 (v3 + 1)))) : K_X3_say_36_60 E Q σ v1 v2 v3 :=
 x_iload_n dX3_say_60 rfl <|
 x_aload_n dX3_say_61 rfl <|
 x_getf (v := .int (gi σ 3603)) fl_X3_21 rfl rfl rfl dX3_say_62 <|
 x_icmp_ge (tgt := 104) dX3_say_65 (by decide) (fun c1 => x_return rfl dX3_say_104 ⟨rfl, (h.1 c1)⟩) (fun c1 => x_aload_n dX3_say_68 rfl <|
 x_getf (v := .ref 37) fl_X3_9 rfl rfl rfl dX3_say_69 <|
 x_iload_n dX3_say_72 rfl <|
 x_iaload (v := ((gm σ 37) v3.toNatClampNeg)) rfl (h.2 c1).1 rfl dX3_say_73 <|
 x_aload_n dX3_say_74 rfl <|
 x_getf (v := .ref 37) fl_X3_9 rfl rfl rfl dX3_say_75 <|
 x_iload_n dX3_say_78 rfl <|
 x_iaload (v := ((gm σ 37) v1.toNatClampNeg)) rfl (h.2 c1).2.1 rfl dX3_say_79 <|
 x_icmp_ne (tgt := 98) dX3_say_80 (by decide) (fun c2 => x_iinc (v := (v3 + 1)) (L2 := [some (.ref 36), some (.int v1), some (.int v2), some (.int (v3 + 1))]) dX3_say_98 rfl (by rw [show Int32.ofInt (1) = 1 by decide]) rfl (Nat.le_of_ble_eq_true rfl) <|
 x_goto (tgt := 60) dX3_say_101 (by decide) <|
 ((h.2 c1).2.2.1 c2)) (fun c2 => x_aload_n dX3_say_83 rfl <|
 x_getf (v := .ref 38) fl_X3_15 rfl rfl rfl dX3_say_84 <|
 x_iload_n dX3_say_87 rfl <|
 x_dup2 dX3_say_88 rfl rfl <|
 x_iaload (v := ((gm σ 38) v3.toNatClampNeg)) rfl (h.2 c1).1 rfl dX3_say_89 <|
 x_aload_n dX3_say_90 rfl <|
 x_getf (v := .ref 38) fl_X3_15 rfl rfl rfl dX3_say_91 <|
 x_iload_n dX3_say_94 rfl <|
 x_iaload (v := ((gm σ 38) v1.toNatClampNeg)) rfl (h.2 c1).2.1 rfl dX3_say_95 <|
 x_ior dX3_say_96 <|
 x_iastore rfl (h.2 c1).1 dX3_say_97 <|
 x_iinc (v := (v3 + 1)) (L2 := [some (.ref 36), some (.int v1), some (.int v2), some (.int (v3 + 1))]) dX3_say_98 rfl (by rw [show Int32.ofInt (1) = 1 by decide]) rfl (Nat.le_of_ble_eq_true rfl) <|
 x_goto (tgt := 60) dX3_say_101 (by decide) <|
 ((h.2 c1).2.2.2 c2)))
set_option maxRecDepth 100000 in
set_option maxHeartbeats 4000000 in
theorem M_X3_say_36 {E : EV} {Q : Sg → Prop} {σ : Sg} {a1 : Int32} {a2 : Int32} (h : MetV E mi_X3_think [.ref 36, .int a1] σ (fun τ1 => vp_in a1 8 ∧ ((¬ ((gm τ1 39) a1.toNatClampNeg) = 0) → K_X3_say_36_60 E Q τ1 a1 a2 (0 : Int32)) ∧ ((((gm τ1 39) a1.toNatClampNeg) = 0) → ((¬ (gi τ1 3607) = 0) → K_X3_say_36_60 E Q (sm τ1 39 a1.toNatClampNeg ((gm τ1 38) a1.toNatClampNeg)) a1 a2 (0 : Int32)) ∧ (((gi τ1 3607) = 0) → MetI E mi_X3_leastThree [.ref 36] (sm τ1 39 a1.toNatClampNeg ((gm τ1 38) a1.toNatClampNeg)) (fun τ5 r6 => ((¬ r6 = 0) → K_X3_say_36_60 E Q (si (si τ5 3607 r6) 3606 a2) a1 a2 (0 : Int32)) ∧ ((r6 = 0) → K_X3_say_36_60 E Q (si (si τ5 3607 r6) 3606 (-9 : Int32)) a1 a2 (0 : Int32))))))) : MetV E mi_X3_say [.ref 36, .int a1, .int a2] σ Q :=
 met_of (L := [some (.ref 36), some (.int a1), some (.int a2), none]) pn_X3 rfl (Nat.le_of_ble_eq_true rfl) <|
 x_aload_n dX3_say_0 rfl <|
 x_iload_n dX3_say_1 rfl <|
 x_callV (b := 36) (As := [.int a1]) ok_X3_think ml_X3_70 (okM (by decide)) dX3_say_2 rfl rfl (Nat.le_of_ble_eq_true rfl) rfl rfl rfl h <|
 (kV (fun τ1 h2 => x_aload_n dX3_say_5 rfl <|
 x_getf (v := .ref 39) fl_X3_18 rfl rfl rfl dX3_say_6 <|
 x_iload_n dX3_say_9 rfl <|
 x_iaload (v := ((gm τ1 39) a1.toNatClampNeg)) rfl h2.1 rfl dX3_say_10 <|
 x_if_ne (tgt := 58) dX3_say_11 (by decide) (fun c3 => x_iconst dX3_say_58 ic_0 <|
 x_istore_n (L2 := [some (.ref 36), some (.int a1), some (.int a2), some (.int (0 : Int32))]) dX3_say_59 rfl (Nat.le_of_ble_eq_true rfl) <|
 (h2.2.1 c3)) (fun c3 => x_aload_n dX3_say_14 rfl <|
 x_getf (v := .ref 39) fl_X3_18 rfl rfl rfl dX3_say_15 <|
 x_iload_n dX3_say_18 rfl <|
 x_aload_n dX3_say_19 rfl <|
 x_getf (v := .ref 38) fl_X3_15 rfl rfl rfl dX3_say_20 <|
 x_iload_n dX3_say_23 rfl <|
 x_iaload (v := ((gm τ1 38) a1.toNatClampNeg)) rfl h2.1 rfl dX3_say_24 <|
 x_iastore rfl h2.1 dX3_say_25 <|
 x_aload_n dX3_say_26 rfl <|
 x_getf (v := .int (gi τ1 3607)) fl_X3_34 rfl rfl rfl dX3_say_27 <|
 x_if_ne (tgt := 58) dX3_say_30 (by decide) (fun c4 => x_iconst dX3_say_58 ic_0 <|
 x_istore_n (L2 := [some (.ref 36), some (.int a1), some (.int a2), some (.int (0 : Int32))]) dX3_say_59 rfl (Nat.le_of_ble_eq_true rfl) <|
 ((h2.2.2 c3).1 c4)) (fun c4 => x_aload_n dX3_say_33 rfl <|
 x_aload_n dX3_say_34 rfl <|
 x_callV (b := 36) (As := []) ok_X3_leastThree ml_X3_81 (okM (by decide)) dX3_say_35 rfl rfl (Nat.le_of_ble_eq_true rfl) rfl rfl rfl ((h2.2.2 c3).2 c4) <|
 (kI (fun τ5 r6 h7 => x_puti fp_X3_34 rfl rfl dX3_say_38 <|
 x_aload_n dX3_say_41 rfl <|
 x_aload_n dX3_say_42 rfl <|
 x_getf (v := .int r6) fl_X3_34 rfl rfl rfl dX3_say_43 <|
 x_if_ne (tgt := 54) dX3_say_46 (by decide) (fun c8 => x_iload_n dX3_say_54 rfl <|
 x_puti fp_X3_31 rfl rfl dX3_say_55 <|
 x_iconst dX3_say_58 ic_0 <|
 x_istore_n (L2 := [some (.ref 36), some (.int a1), some (.int a2), some (.int (0 : Int32))]) dX3_say_59 rfl (Nat.le_of_ble_eq_true rfl) <|
 (h7.1 c8)) (fun c8 => x_bipush dX3_say_49 bp_m9 <|
 x_goto (tgt := 55) dX3_say_51 (by decide) <|
 x_puti fp_X3_31 rfl rfl dX3_say_55 <|
 x_iconst dX3_say_58 ic_0 <|
 x_istore_n (L2 := [some (.ref 36), some (.int a1), some (.int a2), some (.int (0 : Int32))]) dX3_say_59 rfl (Nat.le_of_ble_eq_true rfl) <|
 (h7.2 c8))))))))
def K_X3_play_36_5_7 (E : EV) (Q : Sg → Prop) (σ : Sg) (v2 : Int32) (v3 : Int32) (v4 : Int32) (v5 : Int32) : Prop := J E mi_X3_play (tgM E mi_X3_play (qV Q)) 7 [some (.ref 36), some (.ref 5), some (.int v2), some (.int v3), some (.int v4), some (.int v5), none, none] [] σ
set_option maxRecDepth 100000 in
set_option maxHeartbeats 4000000 in
theorem B_X3_play_36_5_7 {E : EV} {Q : Sg → Prop} {σ : Sg} {v2 : Int32} {v3 : Int32} {v4 : Int32} {v5 : Int32} (h : ((v3 ≤ v5) → Q σ) ∧ ((¬ v3 ≤ v5) → (((gi σ 505) ≤ v5) → Q σ) ∧ ((¬ (gi σ 505) ≤ v5) → vp_in v5 40 ∧ ((((gm σ 6) v5.toNatClampNeg).toInt < 0 ∨ 3 < ((gm σ 6) v5.toNatClampNeg).toInt) → ((((gm σ 8) v5.toNatClampNeg) = (gi σ 3605)) → K_X3_play_36_5_7 E Q σ v2 v3 v4 (v5 + 1)) ∧ ((¬ ((gm σ 8) v5.toNatClampNeg) = (gi σ 3605)) → vp_in ((gm σ 8) v5.toNatClampNeg) 8 ∧ K_X3_play_36_5_7 E Q (sm σ 37 ((gm σ 8) v5.toNatClampNeg).toNatClampNeg ((gm σ 9) v5.toNatClampNeg)) v2 v3 v4 (v5 + 1))) ∧ ((((gm σ 6) v5.toNatClampNeg).toInt = 0) → vp_in ((gm σ 9) v5.toNatClampNeg) 8 ∧ vp_in ((gm σ 8) v5.toNatClampNeg) 8 ∧ K_X3_play_36_5_7 E Q (sm σ 38 ((gm σ 9) v5.toNatClampNeg).toNatClampNeg (((gm σ 38) ((gm σ 9) v5.toNatClampNeg).toNatClampNeg) ||| ((gm σ 38) ((gm σ 8) v5.toNatClampNeg).toNatClampNeg))) v2 v3 v4 (v5 + 1)) ∧ ((((gm σ 6) v5.toNatClampNeg).toInt = 1) → (((v4 &&& ((gm σ 10) v5.toNatClampNeg)) = 0) → K_X3_play_36_5_7 E Q σ v2 v3 v4 (v5 + 1)) ∧ ((¬ (v4 &&& ((gm σ 10) v5.toNatClampNeg)) = 0) → vp_in ((gm σ 9) v5.toNatClampNeg) 8 ∧ vp_in ((gm σ 8) v5.toNatClampNeg) 8 ∧ K_X3_play_36_5_7 E Q (sm σ 38 ((gm σ 9) v5.toNatClampNeg).toNatClampNeg (((gm σ 38) ((gm σ 9) v5.toNatClampNeg).toNatClampNeg) ||| ((gm σ 38) ((gm σ 8) v5.toNatClampNeg).toNatClampNeg))) v2 v3 v4 (v5 + 1))) ∧ ((((gm σ 6) v5.toNatClampNeg).toInt = 2) → ((¬ ((gm σ 9) v5.toNatClampNeg) = (gi σ 3604)) → K_X3_play_36_5_7 E Q σ v2 v3 v4 (v5 + 1)) ∧ ((((gm σ 9) v5.toNatClampNeg) = (gi σ 3604)) → MetV E mi_X3_think [.ref 36, .int ((gm σ 8) v5.toNatClampNeg)] σ (fun τ10 => K_X3_play_36_5_7 E Q τ10 v2 v3 v4 (v5 + 1)))) ∧ ((((gm σ 6) v5.toNatClampNeg).toInt = 3) → ((¬ ((gm σ 9) v5.toNatClampNeg) = (gi σ 3604)) → K_X3_play_36_5_7 E Q σ v2 v3 v4 (v5 + 1)) ∧ ((((gm σ 9) v5.toNatClampNeg) = (gi σ 3604)) → MetV E mi_X3_say [.ref 36, .int ((gm σ 8) v5.toNatClampNeg), .int ((gm σ 7) v5.toNatClampNeg)] σ (fun τ14 => K_X3_play_36_5_7 E Q τ14 v2 v3 v4 (v5 + 1))))))) : K_X3_play_36_5_7 E Q σ v2 v3 v4 v5 :=
 x_iload dX3_play_7 rfl <|
 x_iload_n dX3_play_9 rfl <|
 x_icmp_ge (tgt := 196) dX3_play_10 (by decide) (fun c1 => x_return rfl dX3_play_196 ⟨rfl, (h.1 c1)⟩) (fun c1 => x_iload dX3_play_13 rfl <|
 x_aload_n dX3_play_15 rfl <|
 x_getf (v := .int (gi σ 505)) fl_X3_55 rfl rfl rfl dX3_play_16 <|
 x_icmp_ge (tgt := 196) dX3_play_19 (by decide) (fun c2 => x_return rfl dX3_play_196 ⟨rfl, ((h.2 c1).1 c2)⟩) (fun c2 => x_aload_n dX3_play_22 rfl <|
 x_getf (v := .ref 8) fl_X3_58 rfl rfl rfl dX3_play_23 <|
 x_iload dX3_play_26 rfl <|
 x_iaload (v := ((gm σ 8) v5.toNatClampNeg)) rfl ((h.2 c1).2 c2).1 rfl dX3_play_28 <|
 x_istore (L2 := [some (.ref 36), some (.ref 5), some (.int v2), some (.int v3), some (.int v4), some (.int v5), some (.int ((gm σ 8) v5.toNatClampNeg)), none]) dX3_play_29 rfl (Nat.le_of_ble_eq_true rfl) <|
 x_aload_n dX3_play_31 rfl <|
 x_getf (v := .ref 9) fl_X3_61 rfl rfl rfl dX3_play_32 <|
 x_iload dX3_play_35 rfl <|
 x_iaload (v := ((gm σ 9) v5.toNatClampNeg)) rfl ((h.2 c1).2 c2).1 rfl dX3_play_37 <|
 x_istore (L2 := [some (.ref 36), some (.ref 5), some (.int v2), some (.int v3), some (.int v4), some (.int v5), some (.int ((gm σ 8) v5.toNatClampNeg)), some (.int ((gm σ 9) v5.toNatClampNeg))]) dX3_play_38 rfl (Nat.le_of_ble_eq_true rfl) <|
 x_aload_n dX3_play_40 rfl <|
 x_getf (v := .ref 6) fl_X3_64 rfl rfl rfl dX3_play_41 <|
 x_iload dX3_play_44 rfl <|
 x_iaload (v := ((gm σ 6) v5.toNatClampNeg)) rfl ((h.2 c1).2 c2).1 rfl dX3_play_46 <|
 x_tab dX3_play_47 rfl ⟨by decide, by decide⟩ (fun c3 tgt ht => by
  have e : tgt = 172 := by omega
  subst e
  exact x_iload dX3_play_172 rfl <|
 x_aload_n dX3_play_174 rfl <|
 x_getf (v := .int (gi σ 3605)) fl_X3_28 rfl rfl rfl dX3_play_175 <|
 x_icmp_eq (tgt := 190) dX3_play_178 (by decide) (fun c4 => x_iinc (v := (v5 + 1)) (L2 := [some (.ref 36), some (.ref 5), some (.int v2), some (.int v3), some (.int v4), some (.int (v5 + 1)), some (.int ((gm σ 8) v5.toNatClampNeg)), some (.int ((gm σ 9) v5.toNatClampNeg))]) dX3_play_190 rfl (by rw [show Int32.ofInt (1) = 1 by decide]) rfl (Nat.le_of_ble_eq_true rfl) <|
 x_goto (tgt := 7) dX3_play_193 (by decide) <|
 x_sub (L2 := [some (.ref 36), some (.ref 5), some (.int v2), some (.int v3), some (.int v4), some (.int (v5 + 1)), none, none]) ⟨rfl, rfl, rfl, rfl, rfl, rfl, trivial⟩ ((((h.2 c1).2 c2).2.1 c3).1 c4)) (fun c4 => x_aload_n dX3_play_181 rfl <|
 x_getf (v := .ref 37) fl_X3_9 rfl rfl rfl dX3_play_182 <|
 x_iload dX3_play_185 rfl <|
 x_iload dX3_play_187 rfl <|
 x_iastore rfl ((((h.2 c1).2 c2).2.1 c3).2 c4).1 dX3_play_189 <|
 x_iinc (v := (v5 + 1)) (L2 := [some (.ref 36), some (.ref 5), some (.int v2), some (.int v3), some (.int v4), some (.int (v5 + 1)), some (.int ((gm σ 8) v5.toNatClampNeg)), some (.int ((gm σ 9) v5.toNatClampNeg))]) dX3_play_190 rfl (by rw [show Int32.ofInt (1) = 1 by decide]) rfl (Nat.le_of_ble_eq_true rfl) <|
 x_goto (tgt := 7) dX3_play_193 (by decide) <|
 x_sub (L2 := [some (.ref 36), some (.ref 5), some (.int v2), some (.int v3), some (.int v4), some (.int (v5 + 1)), none, none]) ⟨rfl, rfl, rfl, rfl, rfl, rfl, trivial⟩ ((((h.2 c1).2 c2).2.1 c3).2 c4).2)) (fun i off tgt ho hi ht => by
  match i, ho, hi with
  | 0, ho, hi =>
    have e0 : (29 : Int) = off := Option.some.inj ho
    have e : tgt = 76 := by omega
    subst e
    have c5 : ((gm σ 6) v5.toNatClampNeg).toInt = 0 := by omega
    exact x_aload_n dX3_play_76 rfl <|
 x_getf (v := .ref 38) fl_X3_15 rfl rfl rfl dX3_play_77 <|
 x_iload dX3_play_80 rfl <|
 x_dup2 dX3_play_82 rfl rfl <|
 x_iaload (v := ((gm σ 38) ((gm σ 9) v5.toNatClampNeg).toNatClampNeg)) rfl (((h.2 c1).2 c2).2.2.1 c5).1 rfl dX3_play_83 <|
 x_aload_n dX3_play_84 rfl <|
 x_getf (v := .ref 38) fl_X3_15 rfl rfl rfl dX3_play_85 <|
 x_iload dX3_play_88 rfl <|
 x_iaload (v := ((gm σ 38) ((gm σ 8) v5.toNatClampNeg).toNatClampNeg)) rfl (((h.2 c1).2 c2).2.2.1 c5).2.1 rfl dX3_play_90 <|
 x_ior dX3_play_91 <|
 x_iastore rfl (((h.2 c1).2 c2).2.2.1 c5).1 dX3_play_92 <|
 x_goto (tgt := 190) dX3_play_93 (by decide) <|
 x_iinc (v := (v5 + 1)) (L2 := [some (.ref 36), some (.ref 5), some (.int v2), some (.int v3), some (.int v4), some (.int (v5 + 1)), some (.int ((gm σ 8) v5.toNatClampNeg)), some (.int ((gm σ 9) v5.toNatClampNeg))]) dX3_play_190 rfl (by rw [show Int32.ofInt (1) = 1 by decide]) rfl (Nat.le_of_ble_eq_true rfl) <|
 x_goto (tgt := 7) dX3_play_193 (by decide) <|
 x_sub (L2 := [some (.ref 36), some (.ref 5), some (.int v2), some (.int v3), some (.int v4), some (.int (v5 + 1)), none, none]) ⟨rfl, rfl, rfl, rfl, rfl, rfl, trivial⟩ (((h.2 c1).2 c2).2.2.1 c5).2.2
  | 1, ho, hi =>
    have e0 : (49 : Int) = off := Option.some.inj ho
    have e : tgt = 96 := by omega
    subst e
    have c6 : ((gm σ 6) v5.toNatClampNeg).toInt = 1 := by omega
    exact x_iload dX3_play_96 rfl <|
 x_aload_n dX3_play_98 rfl <|
 x_getf (v := .ref 10) fl_X3_67 rfl rfl rfl dX3_play_99 <|
 x_iload dX3_play_102 rfl <|
 x_iaload (v := ((gm σ 10) v5.toNatClampNeg)) rfl ((h.2 c1).2 c2).1 rfl dX3_play_104 <|
 x_iand dX3_play_105 <|
 x_if_eq (tgt := 190) dX3_play_106 (by decide) (fun c7 => x_iinc (v := (v5 + 1)) (L2 := [some (.ref 36), some (.ref 5), some (.int v2), some (.int v3), some (.int v4), some (.int (v5 + 1)), some (.int ((gm σ 8) v5.toNatClampNeg)), some (.int ((gm σ 9) v5.toNatClampNeg))]) dX3_play_190 rfl (by rw [show Int32.ofInt (1) = 1 by decide]) rfl (Nat.le_of_ble_eq_true rfl) <|
 x_goto (tgt := 7) dX3_play_193 (by decide) <|
 x_sub (L2 := [some (.ref 36), some (.ref 5), some (.int v2), some (.int v3), some (.int v4), some (.int (v5 + 1)), none, none]) ⟨rfl, rfl, rfl, rfl, rfl, rfl, trivial⟩ ((((h.2 c1).2 c2).2.2.2.1 c6).1 c7)) (fun c7 => x_aload_n dX3_play_109 rfl <|
 x_getf (v := .ref 38) fl_X3_15 rfl rfl rfl dX3_play_110 <|
 x_iload dX3_play_113 rfl <|
 x_dup2 dX3_play_115 rfl rfl <|
 x_iaload (v := ((gm σ 38) ((gm σ 9) v5.toNatClampNeg).toNatClampNeg)) rfl ((((h.2 c1).2 c2).2.2.2.1 c6).2 c7).1 rfl dX3_play_116 <|
 x_aload_n dX3_play_117 rfl <|
 x_getf (v := .ref 38) fl_X3_15 rfl rfl rfl dX3_play_118 <|
 x_iload dX3_play_121 rfl <|
 x_iaload (v := ((gm σ 38) ((gm σ 8) v5.toNatClampNeg).toNatClampNeg)) rfl ((((h.2 c1).2 c2).2.2.2.1 c6).2 c7).2.1 rfl dX3_play_123 <|
 x_ior dX3_play_124 <|
 x_iastore rfl ((((h.2 c1).2 c2).2.2.2.1 c6).2 c7).1 dX3_play_125 <|
 x_goto (tgt := 190) dX3_play_126 (by decide) <|
 x_iinc (v := (v5 + 1)) (L2 := [some (.ref 36), some (.ref 5), some (.int v2), some (.int v3), some (.int v4), some (.int (v5 + 1)), some (.int ((gm σ 8) v5.toNatClampNeg)), some (.int ((gm σ 9) v5.toNatClampNeg))]) dX3_play_190 rfl (by rw [show Int32.ofInt (1) = 1 by decide]) rfl (Nat.le_of_ble_eq_true rfl) <|
 x_goto (tgt := 7) dX3_play_193 (by decide) <|
 x_sub (L2 := [some (.ref 36), some (.ref 5), some (.int v2), some (.int v3), some (.int v4), some (.int (v5 + 1)), none, none]) ⟨rfl, rfl, rfl, rfl, rfl, rfl, trivial⟩ ((((h.2 c1).2 c2).2.2.2.1 c6).2 c7).2.2)
  | 2, ho, hi =>
    have e0 : (82 : Int) = off := Option.some.inj ho
    have e : tgt = 129 := by omega
    subst e
    have c8 : ((gm σ 6) v5.toNatClampNeg).toInt = 2 := by omega
    exact x_iload dX3_play_129 rfl <|
 x_aload_n dX3_play_131 rfl <|
 x_getf (v := .int (gi σ 3604)) fl_X3_25 rfl rfl rfl dX3_play_132 <|
 x_icmp_ne (tgt := 190) dX3_play_135 (by decide) (fun c9 => x_iinc (v := (v5 + 1)) (L2 := [some (.ref 36), some (.ref 5), some (.int v2), some (.int v3), some (.int v4), some (.int (v5 + 1)), some (.int ((gm σ 8) v5.toNatClampNeg)), some (.int ((gm σ 9) v5.toNatClampNeg))]) dX3_play_190 rfl (by rw [show Int32.ofInt (1) = 1 by decide]) rfl (Nat.le_of_ble_eq_true rfl) <|
 x_goto (tgt := 7) dX3_play_193 (by decide) <|
 x_sub (L2 := [some (.ref 36), some (.ref 5), some (.int v2), some (.int v3), some (.int v4), some (.int (v5 + 1)), none, none]) ⟨rfl, rfl, rfl, rfl, rfl, rfl, trivial⟩ ((((h.2 c1).2 c2).2.2.2.2.1 c8).1 c9)) (fun c9 => x_aload_n dX3_play_138 rfl <|
 x_iload dX3_play_139 rfl <|
 x_callV (b := 36) (As := [.int ((gm σ 8) v5.toNatClampNeg)]) ok_X3_think ml_X3_70 (okM (by decide)) dX3_play_141 rfl rfl (Nat.le_of_ble_eq_true rfl) rfl rfl rfl ((((h.2 c1).2 c2).2.2.2.2.1 c8).2 c9) <|
 (kV (fun τ10 h11 => x_goto (tgt := 190) dX3_play_144 (by decide) <|
 x_iinc (v := (v5 + 1)) (L2 := [some (.ref 36), some (.ref 5), some (.int v2), some (.int v3), some (.int v4), some (.int (v5 + 1)), some (.int ((gm σ 8) v5.toNatClampNeg)), some (.int ((gm σ 9) v5.toNatClampNeg))]) dX3_play_190 rfl (by rw [show Int32.ofInt (1) = 1 by decide]) rfl (Nat.le_of_ble_eq_true rfl) <|
 x_goto (tgt := 7) dX3_play_193 (by decide) <|
 x_sub (L2 := [some (.ref 36), some (.ref 5), some (.int v2), some (.int v3), some (.int v4), some (.int (v5 + 1)), none, none]) ⟨rfl, rfl, rfl, rfl, rfl, rfl, trivial⟩ h11)))
  | 3, ho, hi =>
    have e0 : (100 : Int) = off := Option.some.inj ho
    have e : tgt = 147 := by omega
    subst e
    have c12 : ((gm σ 6) v5.toNatClampNeg).toInt = 3 := by omega
    exact x_iload dX3_play_147 rfl <|
 x_aload_n dX3_play_149 rfl <|
 x_getf (v := .int (gi σ 3604)) fl_X3_25 rfl rfl rfl dX3_play_150 <|
 x_icmp_ne (tgt := 190) dX3_play_153 (by decide) (fun c13 => x_iinc (v := (v5 + 1)) (L2 := [some (.ref 36), some (.ref 5), some (.int v2), some (.int v3), some (.int v4), some (.int (v5 + 1)), some (.int ((gm σ 8) v5.toNatClampNeg)), some (.int ((gm σ 9) v5.toNatClampNeg))]) dX3_play_190 rfl (by rw [show Int32.ofInt (1) = 1 by decide]) rfl (Nat.le_of_ble_eq_true rfl) <|
 x_goto (tgt := 7) dX3_play_193 (by decide) <|
 x_sub (L2 := [some (.ref 36), some (.ref 5), some (.int v2), some (.int v3), some (.int v4), some (.int (v5 + 1)), none, none]) ⟨rfl, rfl, rfl, rfl, rfl, rfl, trivial⟩ ((((h.2 c1).2 c2).2.2.2.2.2 c12).1 c13)) (fun c13 => x_aload_n dX3_play_156 rfl <|
 x_iload dX3_play_157 rfl <|
 x_aload_n dX3_play_159 rfl <|
 x_getf (v := .ref 7) fl_X3_74 rfl rfl rfl dX3_play_160 <|
 x_iload dX3_play_163 rfl <|
 x_iaload (v := ((gm σ 7) v5.toNatClampNeg)) rfl ((h.2 c1).2 c2).1 rfl dX3_play_165 <|
 x_callV (b := 36) (As := [.int ((gm σ 8) v5.toNatClampNeg), .int ((gm σ 7) v5.toNatClampNeg)]) ok_X3_say ml_X3_77 (okM (by decide)) dX3_play_166 rfl rfl (Nat.le_of_ble_eq_true rfl) rfl rfl rfl ((((h.2 c1).2 c2).2.2.2.2.2 c12).2 c13) <|
 (kV (fun τ14 h15 => x_goto (tgt := 190) dX3_play_169 (by decide) <|
 x_iinc (v := (v5 + 1)) (L2 := [some (.ref 36), some (.ref 5), some (.int v2), some (.int v3), some (.int v4), some (.int (v5 + 1)), some (.int ((gm σ 8) v5.toNatClampNeg)), some (.int ((gm σ 9) v5.toNatClampNeg))]) dX3_play_190 rfl (by rw [show Int32.ofInt (1) = 1 by decide]) rfl (Nat.le_of_ble_eq_true rfl) <|
 x_goto (tgt := 7) dX3_play_193 (by decide) <|
 x_sub (L2 := [some (.ref 36), some (.ref 5), some (.int v2), some (.int v3), some (.int v4), some (.int (v5 + 1)), none, none]) ⟨rfl, rfl, rfl, rfl, rfl, rfl, trivial⟩ h15)))
  | n + 4, ho, hi => exact absurd ho (by simp))))
set_option maxRecDepth 100000 in
set_option maxHeartbeats 4000000 in
theorem M_X3_play_36_5 {E : EV} {Q : Sg → Prop} {σ : Sg} {a2 : Int32} {a3 : Int32} {a4 : Int32} (h : K_X3_play_36_5_7 E Q σ a2 a3 a4 (if a2 < (0 : Int32) then (0 : Int32) else a2)) : MetV E mi_X3_play [.ref 36, .ref 5, .int a2, .int a3, .int a4] σ Q :=
 met_of (L := [some (.ref 36), some (.ref 5), some (.int a2), some (.int a3), some (.int a4), none, none, none]) pn_X3 rfl (Nat.le_of_ble_eq_true rfl) <|
 x_iload_n dX3_play_0 rfl <|
 x_iconst dX3_play_1 ic_0 <|
 x_mmax ml_X3_49 (okM (by decide)) (Nat.le_of_ble_eq_true rfl) dX3_play_2 <|
 x_istore (L2 := [some (.ref 36), some (.ref 5), some (.int a2), some (.int a3), some (.int a4), some (.int (if a2 < (0 : Int32) then (0 : Int32) else a2)), none, none]) dX3_play_5 rfl (Nat.le_of_ble_eq_true rfl) <|
 h
set_option maxRecDepth 100000 in
set_option maxHeartbeats 4000000 in
theorem M_J6_bitCount_0f7a4 {E : EV} {Q : Sg → Int32 → Prop} {σ : Sg} {a1 : Int32} (h : Q σ ((((((((a1 - (((a1.toUInt32 >>> ((1 : Int32).toUInt32 &&& Int32.toUInt32 31)).toInt32) &&& (1431655765 : Int32))) &&& (858993459 : Int32)) + ((((a1 - (((a1.toUInt32 >>> ((1 : Int32).toUInt32 &&& Int32.toUInt32 31)).toInt32) &&& (1431655765 : Int32))).toUInt32 >>> ((2 : Int32).toUInt32 &&& Int32.toUInt32 31)).toInt32) &&& (858993459 : Int32))) + (((((a1 - (((a1.toUInt32 >>> ((1 : Int32).toUInt32 &&& Int32.toUInt32 31)).toInt32) &&& (1431655765 : Int32))) &&& (858993459 : Int32)) + ((((a1 - (((a1.toUInt32 >>> ((1 : Int32).toUInt32 &&& Int32.toUInt32 31)).toInt32) &&& (1431655765 : Int32))).toUInt32 >>> ((2 : Int32).toUInt32 &&& Int32.toUInt32 31)).toInt32) &&& (858993459 : Int32))).toUInt32 >>> ((4 : Int32).toUInt32 &&& Int32.toUInt32 31)).toInt32)) &&& (252645135 : Int32)) + (((((((a1 - (((a1.toUInt32 >>> ((1 : Int32).toUInt32 &&& Int32.toUInt32 31)).toInt32) &&& (1431655765 : Int32))) &&& (858993459 : Int32)) + ((((a1 - (((a1.toUInt32 >>> ((1 : Int32).toUInt32 &&& Int32.toUInt32 31)).toInt32) &&& (1431655765 : Int32))).toUInt32 >>> ((2 : Int32).toUInt32 &&& Int32.toUInt32 31)).toInt32) &&& (858993459 : Int32))) + (((((a1 - (((a1.toUInt32 >>> ((1 : Int32).toUInt32 &&& Int32.toUInt32 31)).toInt32) &&& (1431655765 : Int32))) &&& (858993459 : Int32)) + ((((a1 - (((a1.toUInt32 >>> ((1 : Int32).toUInt32 &&& Int32.toUInt32 31)).toInt32) &&& (1431655765 : Int32))).toUInt32 >>> ((2 : Int32).toUInt32 &&& Int32.toUInt32 31)).toInt32) &&& (858993459 : Int32))).toUInt32 >>> ((4 : Int32).toUInt32 &&& Int32.toUInt32 31)).toInt32)) &&& (252645135 : Int32)).toUInt32 >>> ((8 : Int32).toUInt32 &&& Int32.toUInt32 31)).toInt32)) + ((((((((a1 - (((a1.toUInt32 >>> ((1 : Int32).toUInt32 &&& Int32.toUInt32 31)).toInt32) &&& (1431655765 : Int32))) &&& (858993459 : Int32)) + ((((a1 - (((a1.toUInt32 >>> ((1 : Int32).toUInt32 &&& Int32.toUInt32 31)).toInt32) &&& (1431655765 : Int32))).toUInt32 >>> ((2 : Int32).toUInt32 &&& Int32.toUInt32 31)).toInt32) &&& (858993459 : Int32))) + (((((a1 - (((a1.toUInt32 >>> ((1 : Int32).toUInt32 &&& Int32.toUInt32 31)).toInt32) &&& (1431655765 : Int32))) &&& (858993459 : Int32)) + ((((a1 - (((a1.toUInt32 >>> ((1 : Int32).toUInt32 &&& Int32.toUInt32 31)).toInt32) &&& (1431655765 : Int32))).toUInt32 >>> ((2 : Int32).toUInt32 &&& Int32.toUInt32 31)).toInt32) &&& (858993459 : Int32))).toUInt32 >>> ((4 : Int32).toUInt32 &&& Int32.toUInt32 31)).toInt32)) &&& (252645135 : Int32)) + (((((((a1 - (((a1.toUInt32 >>> ((1 : Int32).toUInt32 &&& Int32.toUInt32 31)).toInt32) &&& (1431655765 : Int32))) &&& (858993459 : Int32)) + ((((a1 - (((a1.toUInt32 >>> ((1 : Int32).toUInt32 &&& Int32.toUInt32 31)).toInt32) &&& (1431655765 : Int32))).toUInt32 >>> ((2 : Int32).toUInt32 &&& Int32.toUInt32 31)).toInt32) &&& (858993459 : Int32))) + (((((a1 - (((a1.toUInt32 >>> ((1 : Int32).toUInt32 &&& Int32.toUInt32 31)).toInt32) &&& (1431655765 : Int32))) &&& (858993459 : Int32)) + ((((a1 - (((a1.toUInt32 >>> ((1 : Int32).toUInt32 &&& Int32.toUInt32 31)).toInt32) &&& (1431655765 : Int32))).toUInt32 >>> ((2 : Int32).toUInt32 &&& Int32.toUInt32 31)).toInt32) &&& (858993459 : Int32))).toUInt32 >>> ((4 : Int32).toUInt32 &&& Int32.toUInt32 31)).toInt32)) &&& (252645135 : Int32)).toUInt32 >>> ((8 : Int32).toUInt32 &&& Int32.toUInt32 31)).toInt32)).toUInt32 >>> ((16 : Int32).toUInt32 &&& Int32.toUInt32 31)).toInt32)) &&& (63 : Int32))) : MetI E mi_J6_bitCount_0f7a4 [.int a1] σ Q :=
 met_of (L := [some (.int a1)]) pn_J6 rfl (Nat.le_of_ble_eq_true rfl) <|
 x_iload_n dJ6_bitCount_0f7a4_0 rfl <|
 x_iload_n dJ6_bitCount_0f7a4_1 rfl <|
 x_iconst dJ6_bitCount_0f7a4_2 ic_1 <|
 x_iushr dJ6_bitCount_0f7a4_3 <|
 x_ldcw kc_J6_265 dJ6_bitCount_0f7a4_4 <|
 x_iand dJ6_bitCount_0f7a4_7 <|
 x_isub dJ6_bitCount_0f7a4_8 <|
 x_istore_n (L2 := [some (.int (a1 - (((a1.toUInt32 >>> ((1 : Int32).toUInt32 &&& Int32.toUInt32 31)).toInt32) &&& (1431655765 : Int32))))]) dJ6_bitCount_0f7a4_9 rfl (Nat.le_of_ble_eq_true rfl) <|
 x_iload_n dJ6_bitCount_0f7a4_10 rfl <|
 x_ldcw kc_J6_266 dJ6_bitCount_0f7a4_11 <|
 x_iand dJ6_bitCount_0f7a4_14 <|
 x_iload_n dJ6_bitCount_0f7a4_15 rfl <|
 x_iconst dJ6_bitCount_0f7a4_16 ic_2 <|
 x_iushr dJ6_bitCount_0f7a4_17 <|
 x_ldcw kc_J6_266 dJ6_bitCount_0f7a4_18 <|
 x_iand dJ6_bitCount_0f7a4_21 <|
 x_iadd dJ6_bitCount_0f7a4_22 <|
 x_istore_n (L2 := [some (.int (((a1 - (((a1.toUInt32 >>> ((1 : Int32).toUInt32 &&& Int32.toUInt32 31)).toInt32) &&& (1431655765 : Int32))) &&& (858993459 : Int32)) + ((((a1 - (((a1.toUInt32 >>> ((1 : Int32).toUInt32 &&& Int32.toUInt32 31)).toInt32) &&& (1431655765 : Int32))).toUInt32 >>> ((2 : Int32).toUInt32 &&& Int32.toUInt32 31)).toInt32) &&& (858993459 : Int32))))]) dJ6_bitCount_0f7a4_23 rfl (Nat.le_of_ble_eq_true rfl) <|
 x_iload_n dJ6_bitCount_0f7a4_24 rfl <|
 x_iload_n dJ6_bitCount_0f7a4_25 rfl <|
 x_iconst dJ6_bitCount_0f7a4_26 ic_4 <|
 x_iushr dJ6_bitCount_0f7a4_27 <|
 x_iadd dJ6_bitCount_0f7a4_28 <|
 x_ldcw kc_J6_267 dJ6_bitCount_0f7a4_29 <|
 x_iand dJ6_bitCount_0f7a4_32 <|
 x_istore_n (L2 := [some (.int (((((a1 - (((a1.toUInt32 >>> ((1 : Int32).toUInt32 &&& Int32.toUInt32 31)).toInt32) &&& (1431655765 : Int32))) &&& (858993459 : Int32)) + ((((a1 - (((a1.toUInt32 >>> ((1 : Int32).toUInt32 &&& Int32.toUInt32 31)).toInt32) &&& (1431655765 : Int32))).toUInt32 >>> ((2 : Int32).toUInt32 &&& Int32.toUInt32 31)).toInt32) &&& (858993459 : Int32))) + (((((a1 - (((a1.toUInt32 >>> ((1 : Int32).toUInt32 &&& Int32.toUInt32 31)).toInt32) &&& (1431655765 : Int32))) &&& (858993459 : Int32)) + ((((a1 - (((a1.toUInt32 >>> ((1 : Int32).toUInt32 &&& Int32.toUInt32 31)).toInt32) &&& (1431655765 : Int32))).toUInt32 >>> ((2 : Int32).toUInt32 &&& Int32.toUInt32 31)).toInt32) &&& (858993459 : Int32))).toUInt32 >>> ((4 : Int32).toUInt32 &&& Int32.toUInt32 31)).toInt32)) &&& (252645135 : Int32)))]) dJ6_bitCount_0f7a4_33 rfl (Nat.le_of_ble_eq_true rfl) <|
 x_iload_n dJ6_bitCount_0f7a4_34 rfl <|
 x_iload_n dJ6_bitCount_0f7a4_35 rfl <|
 x_bipush dJ6_bitCount_0f7a4_36 bp_8 <|
 x_iushr dJ6_bitCount_0f7a4_38 <|
 x_iadd dJ6_bitCount_0f7a4_39 <|
 x_istore_n (L2 := [some (.int ((((((a1 - (((a1.toUInt32 >>> ((1 : Int32).toUInt32 &&& Int32.toUInt32 31)).toInt32) &&& (1431655765 : Int32))) &&& (858993459 : Int32)) + ((((a1 - (((a1.toUInt32 >>> ((1 : Int32).toUInt32 &&& Int32.toUInt32 31)).toInt32) &&& (1431655765 : Int32))).toUInt32 >>> ((2 : Int32).toUInt32 &&& Int32.toUInt32 31)).toInt32) &&& (858993459 : Int32))) + (((((a1 - (((a1.toUInt32 >>> ((1 : Int32).toUInt32 &&& Int32.toUInt32 31)).toInt32) &&& (1431655765 : Int32))) &&& (858993459 : Int32)) + ((((a1 - (((a1.toUInt32 >>> ((1 : Int32).toUInt32 &&& Int32.toUInt32 31)).toInt32) &&& (1431655765 : Int32))).toUInt32 >>> ((2 : Int32).toUInt32 &&& Int32.toUInt32 31)).toInt32) &&& (858993459 : Int32))).toUInt32 >>> ((4 : Int32).toUInt32 &&& Int32.toUInt32 31)).toInt32)) &&& (252645135 : Int32)) + (((((((a1 - (((a1.toUInt32 >>> ((1 : Int32).toUInt32 &&& Int32.toUInt32 31)).toInt32) &&& (1431655765 : Int32))) &&& (858993459 : Int32)) + ((((a1 - (((a1.toUInt32 >>> ((1 : Int32).toUInt32 &&& Int32.toUInt32 31)).toInt32) &&& (1431655765 : Int32))).toUInt32 >>> ((2 : Int32).toUInt32 &&& Int32.toUInt32 31)).toInt32) &&& (858993459 : Int32))) + (((((a1 - (((a1.toUInt32 >>> ((1 : Int32).toUInt32 &&& Int32.toUInt32 31)).toInt32) &&& (1431655765 : Int32))) &&& (858993459 : Int32)) + ((((a1 - (((a1.toUInt32 >>> ((1 : Int32).toUInt32 &&& Int32.toUInt32 31)).toInt32) &&& (1431655765 : Int32))).toUInt32 >>> ((2 : Int32).toUInt32 &&& Int32.toUInt32 31)).toInt32) &&& (858993459 : Int32))).toUInt32 >>> ((4 : Int32).toUInt32 &&& Int32.toUInt32 31)).toInt32)) &&& (252645135 : Int32)).toUInt32 >>> ((8 : Int32).toUInt32 &&& Int32.toUInt32 31)).toInt32)))]) dJ6_bitCount_0f7a4_40 rfl (Nat.le_of_ble_eq_true rfl) <|
 x_iload_n dJ6_bitCount_0f7a4_41 rfl <|
 x_iload_n dJ6_bitCount_0f7a4_42 rfl <|
 x_bipush dJ6_bitCount_0f7a4_43 bp_16 <|
 x_iushr dJ6_bitCount_0f7a4_45 <|
 x_iadd dJ6_bitCount_0f7a4_46 <|
 x_istore_n (L2 := [some (.int (((((((a1 - (((a1.toUInt32 >>> ((1 : Int32).toUInt32 &&& Int32.toUInt32 31)).toInt32) &&& (1431655765 : Int32))) &&& (858993459 : Int32)) + ((((a1 - (((a1.toUInt32 >>> ((1 : Int32).toUInt32 &&& Int32.toUInt32 31)).toInt32) &&& (1431655765 : Int32))).toUInt32 >>> ((2 : Int32).toUInt32 &&& Int32.toUInt32 31)).toInt32) &&& (858993459 : Int32))) + (((((a1 - (((a1.toUInt32 >>> ((1 : Int32).toUInt32 &&& Int32.toUInt32 31)).toInt32) &&& (1431655765 : Int32))) &&& (858993459 : Int32)) + ((((a1 - (((a1.toUInt32 >>> ((1 : Int32).toUInt32 &&& Int32.toUInt32 31)).toInt32) &&& (1431655765 : Int32))).toUInt32 >>> ((2 : Int32).toUInt32 &&& Int32.toUInt32 31)).toInt32) &&& (858993459 : Int32))).toUInt32 >>> ((4 : Int32).toUInt32 &&& Int32.toUInt32 31)).toInt32)) &&& (252645135 : Int32)) + (((((((a1 - (((a1.toUInt32 >>> ((1 : Int32).toUInt32 &&& Int32.toUInt32 31)).toInt32) &&& (1431655765 : Int32))) &&& (858993459 : Int32)) + ((((a1 - (((a1.toUInt32 >>> ((1 : Int32).toUInt32 &&& Int32.toUInt32 31)).toInt32) &&& (1431655765 : Int32))).toUInt32 >>> ((2 : Int32).toUInt32 &&& Int32.toUInt32 31)).toInt32) &&& (858993459 : Int32))) + (((((a1 - (((a1.toUInt32 >>> ((1 : Int32).toUInt32 &&& Int32.toUInt32 31)).toInt32) &&& (1431655765 : Int32))) &&& (858993459 : Int32)) + ((((a1 - (((a1.toUInt32 >>> ((1 : Int32).toUInt32 &&& Int32.toUInt32 31)).toInt32) &&& (1431655765 : Int32))).toUInt32 >>> ((2 : Int32).toUInt32 &&& Int32.toUInt32 31)).toInt32) &&& (858993459 : Int32))).toUInt32 >>> ((4 : Int32).toUInt32 &&& Int32.toUInt32 31)).toInt32)) &&& (252645135 : Int32)).toUInt32 >>> ((8 : Int32).toUInt32 &&& Int32.toUInt32 31)).toInt32)) + ((((((((a1 - (((a1.toUInt32 >>> ((1 : Int32).toUInt32 &&& Int32.toUInt32 31)).toInt32) &&& (1431655765 : Int32))) &&& (858993459 : Int32)) + ((((a1 - (((a1.toUInt32 >>> ((1 : Int32).toUInt32 &&& Int32.toUInt32 31)).toInt32) &&& (1431655765 : Int32))).toUInt32 >>> ((2 : Int32).toUInt32 &&& Int32.toUInt32 31)).toInt32) &&& (858993459 : Int32))) + (((((a1 - (((a1.toUInt32 >>> ((1 : Int32).toUInt32 &&& Int32.toUInt32 31)).toInt32) &&& (1431655765 : Int32))) &&& (858993459 : Int32)) + ((((a1 - (((a1.toUInt32 >>> ((1 : Int32).toUInt32 &&& Int32.toUInt32 31)).toInt32) &&& (1431655765 : Int32))).toUInt32 >>> ((2 : Int32).toUInt32 &&& Int32.toUInt32 31)).toInt32) &&& (858993459 : Int32))).toUInt32 >>> ((4 : Int32).toUInt32 &&& Int32.toUInt32 31)).toInt32)) &&& (252645135 : Int32)) + (((((((a1 - (((a1.toUInt32 >>> ((1 : Int32).toUInt32 &&& Int32.toUInt32 31)).toInt32) &&& (1431655765 : Int32))) &&& (858993459 : Int32)) + ((((a1 - (((a1.toUInt32 >>> ((1 : Int32).toUInt32 &&& Int32.toUInt32 31)).toInt32) &&& (1431655765 : Int32))).toUInt32 >>> ((2 : Int32).toUInt32 &&& Int32.toUInt32 31)).toInt32) &&& (858993459 : Int32))) + (((((a1 - (((a1.toUInt32 >>> ((1 : Int32).toUInt32 &&& Int32.toUInt32 31)).toInt32) &&& (1431655765 : Int32))) &&& (858993459 : Int32)) + ((((a1 - (((a1.toUInt32 >>> ((1 : Int32).toUInt32 &&& Int32.toUInt32 31)).toInt32) &&& (1431655765 : Int32))).toUInt32 >>> ((2 : Int32).toUInt32 &&& Int32.toUInt32 31)).toInt32) &&& (858993459 : Int32))).toUInt32 >>> ((4 : Int32).toUInt32 &&& Int32.toUInt32 31)).toInt32)) &&& (252645135 : Int32)).toUInt32 >>> ((8 : Int32).toUInt32 &&& Int32.toUInt32 31)).toInt32)).toUInt32 >>> ((16 : Int32).toUInt32 &&& Int32.toUInt32 31)).toInt32)))]) dJ6_bitCount_0f7a4_47 rfl (Nat.le_of_ble_eq_true rfl) <|
 x_iload_n dJ6_bitCount_0f7a4_48 rfl <|
 x_bipush dJ6_bitCount_0f7a4_49 bp_63 <|
 x_iand dJ6_bitCount_0f7a4_51 <|
 x_ireturn rfl dJ6_bitCount_0f7a4_52 ⟨_, rfl, h⟩
def K_X3_begin_32_3_2 (E : EV) (Q : Sg → Prop) (σ : Sg) (v2 : Int32) (v3 : Int32) : Prop := J E mi_X3_begin (tgM E mi_X3_begin (qV Q)) 2 [some (.ref 32), some (.ref 3), some (.int v2), some (.int v3)] [] σ
set_option maxRecDepth 100000 in
set_option maxHeartbeats 4000000 in
theorem B_X3_begin_32_3_2 {E : EV} {Q : Sg → Prop} {σ : Sg} {v2 : Int32} {v3 : Int32} (h : (((8 : Int32) ≤ v3) → Q (si (si (si (si (si σ 3203 (gi σ 301)) 3204 v2) 3205 (-9 : Int32)) 3206 (-9 : Int32)) 3207 (0 : Int32))) ∧ ((¬ (8 : Int32) ≤ v3) → vp_in v3 8 ∧ K_X3_begin_32_3_2 E Q (sm (sm (sm σ 33 v3.toNatClampNeg ((gm σ 4) v3.toNatClampNeg)) 34 v3.toNatClampNeg (0 : Int32)) 35 v3.toNatClampNeg (0 : Int32)) v2 (v3 + 1))) : K_X3_begin_32_3_2 E Q σ v2 v3 :=
 x_iload_n dX3_begin_2 rfl <|
 x_bipush dX3_begin_3 bp_8 <|
 x_icmp_ge (tgt := 40) dX3_begin_5 (by decide) (fun c1 => x_aload_n dX3_begin_40 rfl <|
 x_aload_n dX3_begin_41 rfl <|
 x_getf (v := .int (gi σ 301)) fl_X3_42 rfl rfl rfl dX3_begin_42 <|
 x_puti fp_X3_21 rfl rfl dX3_begin_45 <|
 x_aload_n dX3_begin_48 rfl <|
 x_iload_n dX3_begin_49 rfl <|
 x_puti fp_X3_25 rfl rfl dX3_begin_50 <|
 x_aload_n dX3_begin_53 rfl <|
 x_bipush dX3_begin_54 bp_m9 <|
 x_puti fp_X3_28 rfl rfl dX3_begin_56 <|
 x_aload_n dX3_begin_59 rfl <|
 x_bipush dX3_begin_60 bp_m9 <|
 x_puti fp_X3_31 rfl rfl dX3_begin_62 <|
 x_aload_n dX3_begin_65 rfl <|
 x_iconst dX3_begin_66 ic_0 <|
 x_puti fp_X3_34 rfl rfl dX3_begin_67 <|
 x_return rfl dX3_begin_70 ⟨rfl, (h.1 c1)⟩) (fun c1 => x_aload_n dX3_begin_8 rfl <|
 x_getf (v := .ref 33) fl_X3_9 rfl rfl rfl dX3_begin_9 <|
 x_iload_n dX3_begin_12 rfl <|
 x_aload_n dX3_begin_13 rfl <|
 x_getf (v := .ref 4) fl_X3_37 rfl rfl rfl dX3_begin_14 <|
 x_iload_n dX3_begin_17 rfl <|
 x_iaload (v := ((gm σ 4) v3.toNatClampNeg)) rfl (h.2 c1).1 rfl dX3_begin_18 <|
 x_iastore rfl (h.2 c1).1 dX3_begin_19 <|
 x_aload_n dX3_begin_20 rfl <|
 x_getf (v := .ref 34) fl_X3_15 rfl rfl rfl dX3_begin_21 <|
 x_iload_n dX3_begin_24 rfl <|
 x_iconst dX3_begin_25 ic_0 <|
 x_iastore rfl (h.2 c1).1 dX3_begin_26 <|
 x_aload_n dX3_begin_27 rfl <|
 x_getf (v := .ref 35) fl_X3_18 rfl rfl rfl dX3_begin_28 <|
 x_iload_n dX3_begin_31 rfl <|
 x_iconst dX3_begin_32 ic_0 <|
 x_iastore rfl (h.2 c1).1 dX3_begin_33 <|
 x_iinc (v := (v3 + 1)) (L2 := [some (.ref 32), some (.ref 3), some (.int v2), some (.int (v3 + 1))]) dX3_begin_34 rfl (by rw [show Int32.ofInt (1) = 1 by decide]) rfl (Nat.le_of_ble_eq_true rfl) <|
 x_goto (tgt := 2) dX3_begin_37 (by decide) <|
 (h.2 c1).2)
set_option maxRecDepth 100000 in
set_option maxHeartbeats 4000000 in
theorem M_X3_begin_32_3 {E : EV} {Q : Sg → Prop} {σ : Sg} {a2 : Int32} (h : K_X3_begin_32_3_2 E Q σ a2 (0 : Int32)) : MetV E mi_X3_begin [.ref 32, .ref 3, .int a2] σ Q :=
 met_of (L := [some (.ref 32), some (.ref 3), some (.int a2), none]) pn_X3 rfl (Nat.le_of_ble_eq_true rfl) <|
 x_iconst dX3_begin_0 ic_0 <|
 x_istore_n (L2 := [some (.ref 32), some (.ref 3), some (.int a2), some (.int (0 : Int32))]) dX3_begin_1 rfl (Nat.le_of_ble_eq_true rfl) <|
 h
def K_X0_firstFrom_5_2 (E : EV) (Q : Sg → Int32 → Prop) (σ : Sg) (v1 : Int32) (v2 : Int32) : Prop := J E mi_X0_firstFrom (tgM E mi_X0_firstFrom (qI Q)) 2 [some (.ref 5), some (.int v1), some (.int v2)] [] σ
set_option maxRecDepth 100000 in
set_option maxHeartbeats 4000000 in
theorem B_X0_firstFrom_5_2 {E : EV} {Q : Sg → Int32 → Prop} {σ : Sg} {v1 : Int32} {v2 : Int32} (h : (((gi σ 505) ≤ v2) → Q σ (gi σ 505)) ∧ ((¬ (gi σ 505) ≤ v2) → vp_in v2 40 ∧ ((((gm σ 7) v2.toNatClampNeg) < v1) → K_X0_firstFrom_5_2 E Q σ v1 (v2 + 1)) ∧ ((¬ ((gm σ 7) v2.toNatClampNeg) < v1) → Q σ v2))) : K_X0_firstFrom_5_2 E Q σ v1 v2 :=
 x_iload_n dX0_firstFrom_2 rfl <|
 x_aload_n dX0_firstFrom_3 rfl <|
 x_getf (v := .int (gi σ 505)) fl_X0_27 rfl rfl rfl dX0_firstFrom_4 <|
 x_icmp_ge (tgt := 28) dX0_firstFrom_7 (by decide) (fun c1 => x_aload_n dX0_firstFrom_28 rfl <|
 x_getf (v := .int (gi σ 505)) fl_X0_27 rfl rfl rfl dX0_firstFrom_29 <|
 x_ireturn rfl dX0_firstFrom_32 ⟨_, rfl, (h.1 c1)⟩) (fun c1 => x_aload_n dX0_firstFrom_10 rfl <|
 x_getf (v := .ref 7) fl_X0_15 rfl rfl rfl dX0_firstFrom_11 <|
 x_iload_n dX0_firstFrom_14 rfl <|
 x_iaload (v := ((gm σ 7) v2.toNatClampNeg)) rfl (h.2 c1).1 rfl dX0_firstFrom_15 <|
 x_iload_n dX0_firstFrom_16 rfl <|
 x_icmp_lt (tgt := 22) dX0_firstFrom_17 (by decide) (fun c2 => x_iinc (v := (v2 + 1)) (L2 := [some (.ref 5), some (.int v1), some (.int (v2 + 1))]) dX0_firstFrom_22 rfl (by rw [show Int32.ofInt (1) = 1 by decide]) rfl (Nat.le_of_ble_eq_true rfl) <|
 x_goto (tgt := 2) dX0_firstFrom_25 (by decide) <|
 ((h.2 c1).2.1 c2)) (fun c2 => x_iload_n dX0_firstFrom_20 rfl <|
 x_ireturn rfl dX0_firstFrom_21 ⟨_, rfl, ((h.2 c1).2.2 c2)⟩))
set_option maxRecDepth 100000 in
set_option maxHeartbeats 4000000 in
theorem M_X0_firstFrom_5 {E : EV} {Q : Sg → Int32 → Prop} {σ : Sg} {a1 : Int32} (h : K_X0_firstFrom_5_2 E Q σ a1 (0 : Int32)) : MetI E mi_X0_firstFrom [.ref 5, .int a1] σ Q :=
 met_of (L := [some (.ref 5), some (.int a1), none]) pn_X0 rfl (Nat.le_of_ble_eq_true rfl) <|
 x_iconst dX0_firstFrom_0 ic_0 <|
 x_istore_n (L2 := [some (.ref 5), some (.int a1), some (.int (0 : Int32))]) dX0_firstFrom_1 rfl (Nat.le_of_ble_eq_true rfl) <|
 h
set_option maxRecDepth 100000 in
set_option maxHeartbeats 4000000 in
theorem M_X3_think_32 {E : EV} {Q : Sg → Prop} {σ : Sg} {a1 : Int32} (h : vp_in a1 8 ∧ ((¬ ((gm σ 34) a1.toNatClampNeg) = 0) → Q σ) ∧ ((((gm σ 34) a1.toNatClampNeg) = 0) → Q (sm σ 34 a1.toNatClampNeg ((1 : Int32) <<< (a1 &&& 31))))) : MetV E mi_X3_think [.ref 32, .int a1] σ Q :=
 met_of (L := [some (.ref 32), some (.int a1)]) pn_X3 rfl (Nat.le_of_ble_eq_true rfl) <|
 x_aload_n dX3_think_0 rfl <|
 x_getf (v := .ref 34) fl_X3_15 rfl rfl rfl dX3_think_1 <|
 x_iload_n dX3_think_4 rfl <|
 x_iaload (v := ((gm σ 34) a1.toNatClampNeg)) rfl h.1 rfl dX3_think_5 <|
 x_if_ne (tgt := 18) dX3_think_6 (by decide) (fun c1 => x_return rfl dX3_think_18 ⟨rfl, (h.2.1 c1)⟩) (fun c1 => x_aload_n dX3_think_9 rfl <|
 x_getf (v := .ref 34) fl_X3_15 rfl rfl rfl dX3_think_10 <|
 x_iload_n dX3_think_13 rfl <|
 x_iconst dX3_think_14 ic_1 <|
 x_iload_n dX3_think_15 rfl <|
 x_ishl dX3_think_16 <|
 x_iastore rfl h.1 dX3_think_17 <|
 x_return rfl dX3_think_18 ⟨rfl, (h.2.2 c1)⟩)
def K_X3_leastThird_32_2 (E : EV) (Q : Sg → Int32 → Prop) (σ : Sg) (v1 : Int32) (v2 : Int32) (v3 : Int32) : Prop := J E mi_X3_leastThird (tgM E mi_X3_leastThird (qI Q)) 2 [some (.ref 32), some (.int v1), some (.int v2), some (.int v3)] [] σ
set_option maxRecDepth 100000 in
set_option maxHeartbeats 4000000 in
theorem B_X3_leastThird_32_2 {E : EV} {Q : Sg → Int32 → Prop} {σ : Sg} {v1 : Int32} {v2 : Int32} {v3 : Int32} (h : (((gi σ 3203) ≤ v3) → Q σ (0 : Int32)) ∧ ((¬ (gi σ 3203) ≤ v3) → vp_in v3 8 ∧ ((((gm σ 35) v3.toNatClampNeg) = 0) → K_X3_leastThird_32_2 E Q σ v1 v2 (v3 + 1)) ∧ ((¬ ((gm σ 35) v3.toNatClampNeg) = 0) → ((¬ (((gm σ 35) v3.toNatClampNeg) &&& v2) = 0) → K_X3_leastThird_32_2 E Q σ v1 v2 (v3 + 1)) ∧ (((((gm σ 35) v3.toNatClampNeg) &&& v2) = 0) → Q σ ((1 : Int32) <<< (v3 &&& 31)))))) : K_X3_leastThird_32_2 E Q σ v1 v2 v3 :=
 x_iload_n dX3_leastThird_2 rfl <|
 x_aload_n dX3_leastThird_3 rfl <|
 x_getf (v := .int (gi σ 3203)) fl_X3_21 rfl rfl rfl dX3_leastThird_4 <|
 x_icmp_ge (tgt := 40) dX3_leastThird_7 (by decide) (fun c1 => x_iconst dX3_leastThird_40 ic_0 <|
 x_ireturn rfl dX3_leastThird_41 ⟨_, rfl, (h.1 c1)⟩) (fun c1 => x_aload_n dX3_leastThird_10 rfl <|
 x_getf (v := .ref 35) fl_X3_18 rfl rfl rfl dX3_leastThird_11 <|
 x_iload_n dX3_leastThird_14 rfl <|
 x_iaload (v := ((gm σ 35) v3.toNatClampNeg)) rfl (h.2 c1).1 rfl dX3_leastThird_15 <|
 x_if_eq (tgt := 34) dX3_leastThird_16 (by decide) (fun c2 => x_iinc (v := (v3 + 1)) (L2 := [some (.ref 32), some (.int v1), some (.int v2), some (.int (v3 + 1))]) dX3_leastThird_34 rfl (by rw [show Int32.ofInt (1) = 1 by decide]) rfl (Nat.le_of_ble_eq_true rfl) <|
 x_goto (tgt := 2) dX3_leastThird_37 (by decide) <|
 ((h.2 c1).2.1 c2)) (fun c2 => x_aload_n dX3_leastThird_19 rfl <|
 x_getf (v := .ref 35) fl_X3_18 rfl rfl rfl dX3_leastThird_20 <|
 x_iload_n dX3_leastThird_23 rfl <|
 x_iaload (v := ((gm σ 35) v3.toNatClampNeg)) rfl (h.2 c1).1 rfl dX3_leastThird_24 <|
 x_iload_n dX3_leastThird_25 rfl <|
 x_iand dX3_leastThird_26 <|
 x_if_ne (tgt := 34) dX3_leastThird_27 (by decide) (fun c3 => x_iinc (v := (v3 + 1)) (L2 := [some (.ref 32), some (.int v1), some (.int v2), some (.int (v3 + 1))]) dX3_leastThird_34 rfl (by rw [show Int32.ofInt (1) = 1 by decide]) rfl (Nat.le_of_ble_eq_true rfl) <|
 x_goto (tgt := 2) dX3_leastThird_37 (by decide) <|
 (((h.2 c1).2.2 c2).1 c3)) (fun c3 => x_iconst dX3_leastThird_30 ic_1 <|
 x_iload_n dX3_leastThird_31 rfl <|
 x_ishl dX3_leastThird_32 <|
 x_ireturn rfl dX3_leastThird_33 ⟨_, rfl, (((h.2 c1).2.2 c2).2 c3)⟩)))
set_option maxRecDepth 100000 in
set_option maxHeartbeats 4000000 in
theorem M_X3_leastThird_32 {E : EV} {Q : Sg → Int32 → Prop} {σ : Sg} {a1 : Int32} {a2 : Int32} (h : K_X3_leastThird_32_2 E Q σ a1 a2 a1) : MetI E mi_X3_leastThird [.ref 32, .int a1, .int a2] σ Q :=
 met_of (L := [some (.ref 32), some (.int a1), some (.int a2), none]) pn_X3 rfl (Nat.le_of_ble_eq_true rfl) <|
 x_iload_n dX3_leastThird_0 rfl <|
 x_istore_n (L2 := [some (.ref 32), some (.int a1), some (.int a2), some (.int a1)]) dX3_leastThird_1 rfl (Nat.le_of_ble_eq_true rfl) <|
 h
def K_X3_leastThree_32_2 (E : EV) (Q : Sg → Int32 → Prop) (σ : Sg) (v1 : Int32) : Prop := J E mi_X3_leastThree (tgM E mi_X3_leastThree (qI Q)) 2 [some (.ref 32), some (.int v1), none, none] [] σ
def K_X3_leastThree_32_14 (E : EV) (Q : Sg → Int32 → Prop) (σ : Sg) (v1 : Int32) (v2 : Int32) : Prop := J E mi_X3_leastThree (tgM E mi_X3_leastThree (qI Q)) 14 [some (.ref 32), some (.int v1), some (.int v2), none] [] σ
set_option maxRecDepth 100000 in
set_option maxHeartbeats 4000000 in
theorem B_X3_leastThree_32_2 {E : EV} {Q : Sg → Int32 → Prop} {σ : Sg} {v1 : Int32} (h : (((gi σ 3203) ≤ v1) → Q σ (0 : Int32)) ∧ ((¬ (gi σ 3203) ≤ v1) → K_X3_leastThree_32_14 E Q σ v1 (v1 + (1 : Int32)))) : K_X3_leastThree_32_2 E Q σ v1 :=
 x_iload_n dX3_leastThree_2 rfl <|
 x_aload_n dX3_leastThree_3 rfl <|
 x_getf (v := .int (gi σ 3203)) fl_X3_21 rfl rfl rfl dX3_leastThree_4 <|
 x_icmp_ge (tgt := 103) dX3_leastThree_7 (by decide) (fun c1 => x_iconst dX3_leastThree_103 ic_0 <|
 x_ireturn rfl dX3_leastThree_104 ⟨_, rfl, (h.1 c1)⟩) (fun c1 => x_iload_n dX3_leastThree_10 rfl <|
 x_iconst dX3_leastThree_11 ic_1 <|
 x_iadd dX3_leastThree_12 <|
 x_istore_n (L2 := [some (.ref 32), some (.int v1), some (.int (v1 + (1 : Int32))), none]) dX3_leastThree_13 rfl (Nat.le_of_ble_eq_true rfl) <|
 (h.2 c1))
set_option maxRecDepth 100000 in
set_option maxHeartbeats 4000000 in
theorem B_X3_leastThree_32_14 {E : EV} {Q : Sg → Int32 → Prop} {σ : Sg} {v1 : Int32} {v2 : Int32} (h : (((gi σ 3203) ≤ v2) → K_X3_leastThree_32_2 E Q σ (v1 + 1)) ∧ ((¬ (gi σ 3203) ≤ v2) → vp_in v1 8 ∧ ((((gm σ 35) v1.toNatClampNeg) = 0) → K_X3_leastThree_32_2 E Q σ (v1 + 1)) ∧ ((¬ ((gm σ 35) v1.toNatClampNeg) = 0) → vp_in v2 8 ∧ ((((gm σ 35) v2.toNatClampNeg) = 0) → K_X3_leastThree_32_14 E Q σ v1 (v2 + 1)) ∧ ((¬ ((gm σ 35) v2.toNatClampNeg) = 0) → ((¬ (((gm σ 35) v1.toNatClampNeg) &&& ((gm σ 35) v2.toNatClampNeg)) = 0) → K_X3_leastThree_32_14 E Q σ v1 (v2 + 1)) ∧ (((((gm σ 35) v1.toNatClampNeg) &&& ((gm σ 35) v2.toNatClampNeg)) = 0) → MetI E mi_X3_leastThird [.ref 32, .int (v2 + (1 : Int32)), .int (((gm σ 35) v1.toNatClampNeg) ||| ((gm σ 35) v2.toNatClampNeg))] σ (fun τ5 r6 => ((r6 = 0) → K_X3_leastThree_32_14 E Q τ5 v1 (v2 + 1)) ∧ ((¬ r6 = 0) → Q τ5 ((((1 : Int32) <<< (v1 &&& 31)) ||| ((1 : Int32) <<< (v2 &&& 31))) ||| r6)))))))) : K_X3_leastThree_32_14 E Q σ v1 v2 :=
 x_iload_n dX3_leastThree_14 rfl <|
 x_aload_n dX3_leastThree_15 rfl <|
 x_getf (v := .int (gi σ 3203)) fl_X3_21 rfl rfl rfl dX3_leastThree_16 <|
 x_icmp_ge (tgt := 97) dX3_leastThree_19 (by decide) (fun c1 => x_iinc (v := (v1 + 1)) (L2 := [some (.ref 32), some (.int (v1 + 1)), some (.int v2), none]) dX3_leastThree_97 rfl (by rw [show Int32.ofInt (1) = 1 by decide]) rfl (Nat.le_of_ble_eq_true rfl) <|
 x_goto (tgt := 2) dX3_leastThree_100 (by decide) <|
 x_sub (L2 := [some (.ref 32), some (.int (v1 + 1)), none, none]) ⟨rfl, rfl, trivial⟩ (h.1 c1)) (fun c1 => x_aload_n dX3_leastThree_22 rfl <|
 x_getf (v := .ref 35) fl_X3_18 rfl rfl rfl dX3_leastThree_23 <|
 x_iload_n dX3_leastThree_26 rfl <|
 x_iaload (v := ((gm σ 35) v1.toNatClampNeg)) rfl (h.2 c1).1 rfl dX3_leastThree_27 <|
 x_if_eq (tgt := 97) dX3_leastThree_28 (by decide) (fun c2 => x_iinc (v := (v1 + 1)) (L2 := [some (.ref 32), some (.int (v1 + 1)), some (.int v2), none]) dX3_leastThree_97 rfl (by rw [show Int32.ofInt (1) = 1 by decide]) rfl (Nat.le_of_ble_eq_true rfl) <|
 x_goto (tgt := 2) dX3_leastThree_100 (by decide) <|
 x_sub (L2 := [some (.ref 32), some (.int (v1 + 1)), none, none]) ⟨rfl, rfl, trivial⟩ ((h.2 c1).2.1 c2)) (fun c2 => x_aload_n dX3_leastThree_31 rfl <|
 x_getf (v := .ref 35) fl_X3_18 rfl rfl rfl dX3_leastThree_32 <|
 x_iload_n dX3_leastThree_35 rfl <|
 x_iaload (v := ((gm σ 35) v2.toNatClampNeg)) rfl ((h.2 c1).2.2 c2).1 rfl dX3_leastThree_36 <|
 x_if_eq (tgt := 91) dX3_leastThree_37 (by decide) (fun c3 => x_iinc (v := (v2 + 1)) (L2 := [some (.ref 32), some (.int v1), some (.int (v2 + 1)), none]) dX3_leastThree_91 rfl (by rw [show Int32.ofInt (1) = 1 by decide]) rfl (Nat.le_of_ble_eq_true rfl) <|
 x_goto (tgt := 14) dX3_leastThree_94 (by decide) <|
 (((h.2 c1).2.2 c2).2.1 c3)) (fun c3 => x_aload_n dX3_leastThree_40 rfl <|
 x_getf (v := .ref 35) fl_X3_18 rfl rfl rfl dX3_leastThree_41 <|
 x_iload_n dX3_leastThree_44 rfl <|
 x_iaload (v := ((gm σ 35) v1.toNatClampNeg)) rfl (h.2 c1).1 rfl dX3_leastThree_45 <|
 x_aload_n dX3_leastThree_46 rfl <|
 x_getf (v := .ref 35) fl_X3_18 rfl rfl rfl dX3_leastThree_47 <|
 x_iload_n dX3_leastThree_50 rfl <|
 x_iaload (v := ((gm σ 35) v2.toNatClampNeg)) rfl ((h.2 c1).2.2 c2).1 rfl dX3_leastThree_51 <|
 x_iand dX3_leastThree_52 <|
 x_if_ne (tgt := 91) dX3_leastThree_53 (by decide) (fun c4 => x_iinc (v := (v2 + 1)) (L2 := [some (.ref 32), some (.int v1), some (.int (v2 + 1)), none]) dX3_leastThree_91 rfl (by rw [show Int32.ofInt (1) = 1 by decide]) rfl (Nat.le_of_ble_eq_true rfl) <|
 x_goto (tgt := 14) dX3_leastThree_94 (by decide) <|
 ((((h.2 c1).2.2 c2).2.2 c3).1 c4)) (fun c4 => x_aload_n dX3_leastThree_56 rfl <|
 x_iload_n dX3_leastThree_57 rfl <|
 x_iconst dX3_leastThree_58 ic_1 <|
 x_iadd dX3_leastThree_59 <|
 x_aload_n dX3_leastThree_60 rfl <|
 x_getf (v := .ref 35) fl_X3_18 rfl rfl rfl dX3_leastThree_61 <|
 x_iload_n dX3_leastThree_64 rfl <|
 x_iaload (v := ((gm σ 35) v1.toNatClampNeg)) rfl (h.2 c1).1 rfl dX3_leastThree_65 <|
 x_aload_n dX3_leastThree_66 rfl <|
 x_getf (v := .ref 35) fl_X3_18 rfl rfl rfl dX3_leastThree_67 <|
 x_iload_n dX3_leastThree_70 rfl <|
 x_iaload (v := ((gm σ 35) v2.toNatClampNeg)) rfl ((h.2 c1).2.2 c2).1 rfl dX3_leastThree_71 <|
 x_ior dX3_leastThree_72 <|
 x_callV (b := 32) (As := [.int (v2 + (1 : Int32)), .int (((gm σ 35) v1.toNatClampNeg) ||| ((gm σ 35) v2.toNatClampNeg))]) ok_X3_leastThird ml_X3_85 (okM (by decide)) dX3_leastThree_73 rfl rfl (Nat.le_of_ble_eq_true rfl) rfl rfl rfl ((((h.2 c1).2.2 c2).2.2 c3).2 c4) <|
 (kI (fun τ5 r6 h7 => x_istore_n (L2 := [some (.ref 32), some (.int v1), some (.int v2), some (.int r6)]) dX3_leastThree_76 rfl (Nat.le_of_ble_eq_true rfl) <|
 x_iload_n dX3_leastThree_77 rfl <|
 x_if_eq (tgt := 91) dX3_leastThree_78 (by decide) (fun c8 => x_iinc (v := (v2 + 1)) (L2 := [some (.ref 32), some (.int v1), some (.int (v2 + 1)), some (.int r6)]) dX3_leastThree_91 rfl (by rw [show Int32.ofInt (1) = 1 by decide]) rfl (Nat.le_of_ble_eq_true rfl) <|
 x_goto (tgt := 14) dX3_leastThree_94 (by decide) <|
 x_sub (L2 := [some (.ref 32), some (.int v1), some (.int (v2 + 1)), none]) ⟨rfl, rfl, rfl, trivial⟩ (h7.1 c8)) (fun c8 => x_iconst dX3_leastThree_81 ic_1 <|
 x_iload_n dX3_leastThree_82 rfl <|
 x_ishl dX3_leastThree_83 <|
 x_iconst dX3_leastThree_84 ic_1 <|
 x_iload_n dX3_leastThree_85 rfl <|
 x_ishl dX3_leastThree_86 <|
 x_ior dX3_leastThree_87 <|
 x_iload_n dX3_leastThree_88 rfl <|
 x_ior dX3_leastThree_89 <|
 x_ireturn rfl dX3_leastThree_90 ⟨_, rfl, (h7.2 c8)⟩)))))))
set_option maxRecDepth 100000 in
set_option maxHeartbeats 4000000 in
theorem M_X3_leastThree_32 {E : EV} {Q : Sg → Int32 → Prop} {σ : Sg} (h : K_X3_leastThree_32_2 E Q σ (0 : Int32)) : MetI E mi_X3_leastThree [.ref 32] σ Q :=
 met_of (L := [some (.ref 32), none, none, none]) pn_X3 rfl (Nat.le_of_ble_eq_true rfl) <|
 x_iconst dX3_leastThree_0 ic_0 <|
 x_istore_n (L2 := [some (.ref 32), some (.int (0 : Int32)), none, none]) dX3_leastThree_1 rfl (Nat.le_of_ble_eq_true rfl) <|
 h
def K_X3_say_32_60 (E : EV) (Q : Sg → Prop) (σ : Sg) (v1 : Int32) (v2 : Int32) (v3 : Int32) : Prop := J E mi_X3_say (tgM E mi_X3_say (qV Q)) 60 [some (.ref 32), some (.int v1), some (.int v2), some (.int v3)] [] σ
set_option maxRecDepth 100000 in
set_option maxHeartbeats 4000000 in
theorem B_X3_say_32_60 {E : EV} {Q : Sg → Prop} {σ : Sg} {v1 : Int32} {v2 : Int32} {v3 : Int32} (h : (((gi σ 3203) ≤ v3) → Q σ) ∧ ((¬ (gi σ 3203) ≤ v3) → vp_in v3 8 ∧ vp_in v1 8 ∧ ((¬ ((gm σ 33) v3.toNatClampNeg) = ((gm σ 33) v1.toNatClampNeg)) → K_X3_say_32_60 E Q σ v1 v2 (v3 + 1)) ∧ ((((gm σ 33) v3.toNatClampNeg) = ((gm σ 33) v1.toNatClampNeg)) → K_X3_say_32_60 E Q (sm σ 34 v3.toNatClampNeg (((gm σ 34) v3.toNatClampNeg) ||| ((gm σ 34) v1.toNatClampNeg))) v1 v2 (v3 + 1)))) : K_X3_say_32_60 E Q σ v1 v2 v3 :=
 x_iload_n dX3_say_60 rfl <|
 x_aload_n dX3_say_61 rfl <|
 x_getf (v := .int (gi σ 3203)) fl_X3_21 rfl rfl rfl dX3_say_62 <|
 x_icmp_ge (tgt := 104) dX3_say_65 (by decide) (fun c1 => x_return rfl dX3_say_104 ⟨rfl, (h.1 c1)⟩) (fun c1 => x_aload_n dX3_say_68 rfl <|
 x_getf (v := .ref 33) fl_X3_9 rfl rfl rfl dX3_say_69 <|
 x_iload_n dX3_say_72 rfl <|
 x_iaload (v := ((gm σ 33) v3.toNatClampNeg)) rfl (h.2 c1).1 rfl dX3_say_73 <|
 x_aload_n dX3_say_74 rfl <|
 x_getf (v := .ref 33) fl_X3_9 rfl rfl rfl dX3_say_75 <|
 x_iload_n dX3_say_78 rfl <|
 x_iaload (v := ((gm σ 33) v1.toNatClampNeg)) rfl (h.2 c1).2.1 rfl dX3_say_79 <|
 x_icmp_ne (tgt := 98) dX3_say_80 (by decide) (fun c2 => x_iinc (v := (v3 + 1)) (L2 := [some (.ref 32), some (.int v1), some (.int v2), some (.int (v3 + 1))]) dX3_say_98 rfl (by rw [show Int32.ofInt (1) = 1 by decide]) rfl (Nat.le_of_ble_eq_true rfl) <|
 x_goto (tgt := 60) dX3_say_101 (by decide) <|
 ((h.2 c1).2.2.1 c2)) (fun c2 => x_aload_n dX3_say_83 rfl <|
 x_getf (v := .ref 34) fl_X3_15 rfl rfl rfl dX3_say_84 <|
 x_iload_n dX3_say_87 rfl <|
 x_dup2 dX3_say_88 rfl rfl <|
 x_iaload (v := ((gm σ 34) v3.toNatClampNeg)) rfl (h.2 c1).1 rfl dX3_say_89 <|
 x_aload_n dX3_say_90 rfl <|
 x_getf (v := .ref 34) fl_X3_15 rfl rfl rfl dX3_say_91 <|
 x_iload_n dX3_say_94 rfl <|
 x_iaload (v := ((gm σ 34) v1.toNatClampNeg)) rfl (h.2 c1).2.1 rfl dX3_say_95 <|
 x_ior dX3_say_96 <|
 x_iastore rfl (h.2 c1).1 dX3_say_97 <|
 x_iinc (v := (v3 + 1)) (L2 := [some (.ref 32), some (.int v1), some (.int v2), some (.int (v3 + 1))]) dX3_say_98 rfl (by rw [show Int32.ofInt (1) = 1 by decide]) rfl (Nat.le_of_ble_eq_true rfl) <|
 x_goto (tgt := 60) dX3_say_101 (by decide) <|
 ((h.2 c1).2.2.2 c2)))
set_option maxRecDepth 100000 in
set_option maxHeartbeats 4000000 in
theorem M_X3_say_32 {E : EV} {Q : Sg → Prop} {σ : Sg} {a1 : Int32} {a2 : Int32} (h : MetV E mi_X3_think [.ref 32, .int a1] σ (fun τ1 => vp_in a1 8 ∧ ((¬ ((gm τ1 35) a1.toNatClampNeg) = 0) → K_X3_say_32_60 E Q τ1 a1 a2 (0 : Int32)) ∧ ((((gm τ1 35) a1.toNatClampNeg) = 0) → ((¬ (gi τ1 3207) = 0) → K_X3_say_32_60 E Q (sm τ1 35 a1.toNatClampNeg ((gm τ1 34) a1.toNatClampNeg)) a1 a2 (0 : Int32)) ∧ (((gi τ1 3207) = 0) → MetI E mi_X3_leastThree [.ref 32] (sm τ1 35 a1.toNatClampNeg ((gm τ1 34) a1.toNatClampNeg)) (fun τ5 r6 => ((¬ r6 = 0) → K_X3_say_32_60 E Q (si (si τ5 3207 r6) 3206 a2) a1 a2 (0 : Int32)) ∧ ((r6 = 0) → K_X3_say_32_60 E Q (si (si τ5 3207 r6) 3206 (-9 : Int32)) a1 a2 (0 : Int32))))))) : MetV E mi_X3_say [.ref 32, .int a1, .int a2] σ Q :=
 met_of (L := [some (.ref 32), some (.int a1), some (.int a2), none]) pn_X3 rfl (Nat.le_of_ble_eq_true rfl) <|
 x_aload_n dX3_say_0 rfl <|
 x_iload_n dX3_say_1 rfl <|
 x_callV (b := 32) (As := [.int a1]) ok_X3_think ml_X3_70 (okM (by decide)) dX3_say_2 rfl rfl (Nat.le_of_ble_eq_true rfl) rfl rfl rfl h <|
 (kV (fun τ1 h2 => x_aload_n dX3_say_5 rfl <|
 x_getf (v := .ref 35) fl_X3_18 rfl rfl rfl dX3_say_6 <|
 x_iload_n dX3_say_9 rfl <|
 x_iaload (v := ((gm τ1 35) a1.toNatClampNeg)) rfl h2.1 rfl dX3_say_10 <|
 x_if_ne (tgt := 58) dX3_say_11 (by decide) (fun c3 => x_iconst dX3_say_58 ic_0 <|
 x_istore_n (L2 := [some (.ref 32), some (.int a1), some (.int a2), some (.int (0 : Int32))]) dX3_say_59 rfl (Nat.le_of_ble_eq_true rfl) <|
 (h2.2.1 c3)) (fun c3 => x_aload_n dX3_say_14 rfl <|
 x_getf (v := .ref 35) fl_X3_18 rfl rfl rfl dX3_say_15 <|
 x_iload_n dX3_say_18 rfl <|
 x_aload_n dX3_say_19 rfl <|
 x_getf (v := .ref 34) fl_X3_15 rfl rfl rfl dX3_say_20 <|
 x_iload_n dX3_say_23 rfl <|
 x_iaload (v := ((gm τ1 34) a1.toNatClampNeg)) rfl h2.1 rfl dX3_say_24 <|
 x_iastore rfl h2.1 dX3_say_25 <|
 x_aload_n dX3_say_26 rfl <|
 x_getf (v := .int (gi τ1 3207)) fl_X3_34 rfl rfl rfl dX3_say_27 <|
 x_if_ne (tgt := 58) dX3_say_30 (by decide) (fun c4 => x_iconst dX3_say_58 ic_0 <|
 x_istore_n (L2 := [some (.ref 32), some (.int a1), some (.int a2), some (.int (0 : Int32))]) dX3_say_59 rfl (Nat.le_of_ble_eq_true rfl) <|
 ((h2.2.2 c3).1 c4)) (fun c4 => x_aload_n dX3_say_33 rfl <|
 x_aload_n dX3_say_34 rfl <|
 x_callV (b := 32) (As := []) ok_X3_leastThree ml_X3_81 (okM (by decide)) dX3_say_35 rfl rfl (Nat.le_of_ble_eq_true rfl) rfl rfl rfl ((h2.2.2 c3).2 c4) <|
 (kI (fun τ5 r6 h7 => x_puti fp_X3_34 rfl rfl dX3_say_38 <|
 x_aload_n dX3_say_41 rfl <|
 x_aload_n dX3_say_42 rfl <|
 x_getf (v := .int r6) fl_X3_34 rfl rfl rfl dX3_say_43 <|
 x_if_ne (tgt := 54) dX3_say_46 (by decide) (fun c8 => x_iload_n dX3_say_54 rfl <|
 x_puti fp_X3_31 rfl rfl dX3_say_55 <|
 x_iconst dX3_say_58 ic_0 <|
 x_istore_n (L2 := [some (.ref 32), some (.int a1), some (.int a2), some (.int (0 : Int32))]) dX3_say_59 rfl (Nat.le_of_ble_eq_true rfl) <|
 (h7.1 c8)) (fun c8 => x_bipush dX3_say_49 bp_m9 <|
 x_goto (tgt := 55) dX3_say_51 (by decide) <|
 x_puti fp_X3_31 rfl rfl dX3_say_55 <|
 x_iconst dX3_say_58 ic_0 <|
 x_istore_n (L2 := [some (.ref 32), some (.int a1), some (.int a2), some (.int (0 : Int32))]) dX3_say_59 rfl (Nat.le_of_ble_eq_true rfl) <|
 (h7.2 c8))))))))
def K_X3_play_32_5_7 (E : EV) (Q : Sg → Prop) (σ : Sg) (v2 : Int32) (v3 : Int32) (v4 : Int32) (v5 : Int32) : Prop := J E mi_X3_play (tgM E mi_X3_play (qV Q)) 7 [some (.ref 32), some (.ref 5), some (.int v2), some (.int v3), some (.int v4), some (.int v5), none, none] [] σ
set_option maxRecDepth 100000 in
set_option maxHeartbeats 4000000 in
theorem B_X3_play_32_5_7 {E : EV} {Q : Sg → Prop} {σ : Sg} {v2 : Int32} {v3 : Int32} {v4 : Int32} {v5 : Int32} (h : ((v3 ≤ v5) → Q σ) ∧ ((¬ v3 ≤ v5) → (((gi σ 505) ≤ v5) → Q σ) ∧ ((¬ (gi σ 505) ≤ v5) → vp_in v5 40 ∧ ((((gm σ 6) v5.toNatClampNeg).toInt < 0 ∨ 3 < ((gm σ 6) v5.toNatClampNeg).toInt) → ((((gm σ 8) v5.toNatClampNeg) = (gi σ 3205)) → K_X3_play_32_5_7 E Q σ v2 v3 v4 (v5 + 1)) ∧ ((¬ ((gm σ 8) v5.toNatClampNeg) = (gi σ 3205)) → vp_in ((gm σ 8) v5.toNatClampNeg) 8 ∧ K_X3_play_32_5_7 E Q (sm σ 33 ((gm σ 8) v5.toNatClampNeg).toNatClampNeg ((gm σ 9) v5.toNatClampNeg)) v2 v3 v4 (v5 + 1))) ∧ ((((gm σ 6) v5.toNatClampNeg).toInt = 0) → vp_in ((gm σ 9) v5.toNatClampNeg) 8 ∧ vp_in ((gm σ 8) v5.toNatClampNeg) 8 ∧ K_X3_play_32_5_7 E Q (sm σ 34 ((gm σ 9) v5.toNatClampNeg).toNatClampNeg (((gm σ 34) ((gm σ 9) v5.toNatClampNeg).toNatClampNeg) ||| ((gm σ 34) ((gm σ 8) v5.toNatClampNeg).toNatClampNeg))) v2 v3 v4 (v5 + 1)) ∧ ((((gm σ 6) v5.toNatClampNeg).toInt = 1) → (((v4 &&& ((gm σ 10) v5.toNatClampNeg)) = 0) → K_X3_play_32_5_7 E Q σ v2 v3 v4 (v5 + 1)) ∧ ((¬ (v4 &&& ((gm σ 10) v5.toNatClampNeg)) = 0) → vp_in ((gm σ 9) v5.toNatClampNeg) 8 ∧ vp_in ((gm σ 8) v5.toNatClampNeg) 8 ∧ K_X3_play_32_5_7 E Q (sm σ 34 ((gm σ 9) v5.toNatClampNeg).toNatClampNeg (((gm σ 34) ((gm σ 9) v5.toNatClampNeg).toNatClampNeg) ||| ((gm σ 34) ((gm σ 8) v5.toNatClampNeg).toNatClampNeg))) v2 v3 v4 (v5 + 1))) ∧ ((((gm σ 6) v5.toNatClampNeg).toInt = 2) → ((¬ ((gm σ 9) v5.toNatClampNeg) = (gi σ 3204)) → K_X3_play_32_5_7 E Q σ v2 v3 v4 (v5 + 1)) ∧ ((((gm σ 9) v5.toNatClampNeg) = (gi σ 3204)) → MetV E mi_X3_think [.ref 32, .int ((gm σ 8) v5.toNatClampNeg)] σ (fun τ10 => K_X3_play_32_5_7 E Q τ10 v2 v3 v4 (v5 + 1)))) ∧ ((((gm σ 6) v5.toNatClampNeg).toInt = 3) → ((¬ ((gm σ 9) v5.toNatClampNeg) = (gi σ 3204)) → K_X3_play_32_5_7 E Q σ v2 v3 v4 (v5 + 1)) ∧ ((((gm σ 9) v5.toNatClampNeg) = (gi σ 3204)) → MetV E mi_X3_say [.ref 32, .int ((gm σ 8) v5.toNatClampNeg), .int ((gm σ 7) v5.toNatClampNeg)] σ (fun τ14 => K_X3_play_32_5_7 E Q τ14 v2 v3 v4 (v5 + 1))))))) : K_X3_play_32_5_7 E Q σ v2 v3 v4 v5 :=
 x_iload dX3_play_7 rfl <|
 x_iload_n dX3_play_9 rfl <|
 x_icmp_ge (tgt := 196) dX3_play_10 (by decide) (fun c1 => x_return rfl dX3_play_196 ⟨rfl, (h.1 c1)⟩) (fun c1 => x_iload dX3_play_13 rfl <|
 x_aload_n dX3_play_15 rfl <|
 x_getf (v := .int (gi σ 505)) fl_X3_55 rfl rfl rfl dX3_play_16 <|
 x_icmp_ge (tgt := 196) dX3_play_19 (by decide) (fun c2 => x_return rfl dX3_play_196 ⟨rfl, ((h.2 c1).1 c2)⟩) (fun c2 => x_aload_n dX3_play_22 rfl <|
 x_getf (v := .ref 8) fl_X3_58 rfl rfl rfl dX3_play_23 <|
 x_iload dX3_play_26 rfl <|
 x_iaload (v := ((gm σ 8) v5.toNatClampNeg)) rfl ((h.2 c1).2 c2).1 rfl dX3_play_28 <|
 x_istore (L2 := [some (.ref 32), some (.ref 5), some (.int v2), some (.int v3), some (.int v4), some (.int v5), some (.int ((gm σ 8) v5.toNatClampNeg)), none]) dX3_play_29 rfl (Nat.le_of_ble_eq_true rfl) <|
 x_aload_n dX3_play_31 rfl <|
 x_getf (v := .ref 9) fl_X3_61 rfl rfl rfl dX3_play_32 <|
 x_iload dX3_play_35 rfl <|
 x_iaload (v := ((gm σ 9) v5.toNatClampNeg)) rfl ((h.2 c1).2 c2).1 rfl dX3_play_37 <|
 x_istore (L2 := [some (.ref 32), some (.ref 5), some (.int v2), some (.int v3), some (.int v4), some (.int v5), some (.int ((gm σ 8) v5.toNatClampNeg)), some (.int ((gm σ 9) v5.toNatClampNeg))]) dX3_play_38 rfl (Nat.le_of_ble_eq_true rfl) <|
 x_aload_n dX3_play_40 rfl <|
 x_getf (v := .ref 6) fl_X3_64 rfl rfl rfl dX3_play_41 <|
 x_iload dX3_play_44 rfl <|
 x_iaload (v := ((gm σ 6) v5.toNatClampNeg)) rfl ((h.2 c1).2 c2).1 rfl dX3_play_46 <|
 x_tab dX3_play_47 rfl ⟨by decide, by decide⟩ (fun c3 tgt ht => by
  have e : tgt = 172 := by omega
  subst e
  exact x_iload dX3_play_172 rfl <|
 x_aload_n dX3_play_174 rfl <|
 x_getf (v := .int (gi σ 3205)) fl_X3_28 rfl rfl rfl dX3_play_175 <|
 x_icmp_eq (tgt := 190) dX3_play_178 (by decide) (fun c4 => x_iinc (v := (v5 + 1)) (L2 := [some (.ref 32), some (.ref 5), some (.int v2), some (.int v3), some (.int v4), some (.int (v5 + 1)), some (.int ((gm σ 8) v5.toNatClampNeg)), some (.int ((gm σ 9) v5.toNatClampNeg))]) dX3_play_190 rfl (by rw [show Int32.ofInt (1) = 1 by decide]) rfl (Nat.le_of_ble_eq_true rfl) <|
 x_goto (tgt := 7) dX3_play_193 (by decide) <|
 x_sub (L2 := [some (.ref 32), some (.ref 5), some (.int v2), some (.int v3), some (.int v4), some (.int (v5 + 1)), none, none]) ⟨rfl, rfl, rfl, rfl, rfl, rfl, trivial⟩ ((((h.2 c1).2 c2).2.1 c3).1 c4)) (fun c4 => x_aload_n dX3_play_181 rfl <|
 x_getf (v := .ref 33) fl_X3_9 rfl rfl rfl dX3_play_182 <|
 x_iload dX3_play_185 rfl <|
 x_iload dX3_play_187 rfl <|
 x_iastore rfl ((((h.2 c1).2 c2).2.1 c3).2 c4).1 dX3_play_189 <|
 x_iinc (v := (v5 + 1)) (L2 := [some (.ref 32), some (.ref 5), some (.int v2), some (.int v3), some (.int v4), some (.int (v5 + 1)), some (.int ((gm σ 8) v5.toNatClampNeg)), some (.int ((gm σ 9) v5.toNatClampNeg))]) dX3_play_190 rfl (by rw [show Int32.ofInt (1) = 1 by decide]) rfl (Nat.le_of_ble_eq_true rfl) <|
 x_goto (tgt := 7) dX3_play_193 (by decide) <|
 x_sub (L2 := [some (.ref 32), some (.ref 5), some (.int v2), some (.int v3), some (.int v4), some (.int (v5 + 1)), none, none]) ⟨rfl, rfl, rfl, rfl, rfl, rfl, trivial⟩ ((((h.2 c1).2 c2).2.1 c3).2 c4).2)) (fun i off tgt ho hi ht => by
  match i, ho, hi with
  | 0, ho, hi =>
    have e0 : (29 : Int) = off := Option.some.inj ho
    have e : tgt = 76 := by omega
    subst e
    have c5 : ((gm σ 6) v5.toNatClampNeg).toInt = 0 := by omega
    exact x_aload_n dX3_play_76 rfl <|
 x_getf (v := .ref 34) fl_X3_15 rfl rfl rfl dX3_play_77 <|
 x_iload dX3_play_80 rfl <|
 x_dup2 dX3_play_82 rfl rfl <|
 x_iaload (v := ((gm σ 34) ((gm σ 9) v5.toNatClampNeg).toNatClampNeg)) rfl (((h.2 c1).2 c2).2.2.1 c5).1 rfl dX3_play_83 <|
 x_aload_n dX3_play_84 rfl <|
 x_getf (v := .ref 34) fl_X3_15 rfl rfl rfl dX3_play_85 <|
 x_iload dX3_play_88 rfl <|
 x_iaload (v := ((gm σ 34) ((gm σ 8) v5.toNatClampNeg).toNatClampNeg)) rfl (((h.2 c1).2 c2).2.2.1 c5).2.1 rfl dX3_play_90 <|
 x_ior dX3_play_91 <|
 x_iastore rfl (((h.2 c1).2 c2).2.2.1 c5).1 dX3_play_92 <|
 x_goto (tgt := 190) dX3_play_93 (by decide) <|
 x_iinc (v := (v5 + 1)) (L2 := [some (.ref 32), some (.ref 5), some (.int v2), some (.int v3), some (.int v4), some (.int (v5 + 1)), some (.int ((gm σ 8) v5.toNatClampNeg)), some (.int ((gm σ 9) v5.toNatClampNeg))]) dX3_play_190 rfl (by rw [show Int32.ofInt (1) = 1 by decide]) rfl (Nat.le_of_ble_eq_true rfl) <|
 x_goto (tgt := 7) dX3_play_193 (by decide) <|
 x_sub (L2 := [some (.ref 32), some (.ref 5), some (.int v2), some (.int v3), some (.int v4), some (.int (v5 + 1)), none, none]) ⟨rfl, rfl, rfl, rfl, rfl, rfl, trivial⟩ (((h.2 c1).2 c2).2.2.1 c5).2.2
  | 1, ho, hi =>
    have e0 : (49 : Int) = off := Option.some.inj ho
    have e : tgt = 96 := by omega
    subst e
    have c6 : ((gm σ 6) v5.toNatClampNeg).toInt = 1 := by omega
    exact x_iload dX3_play_96 rfl <|
 x_aload_n dX3_play_98 rfl <|
 x_getf (v := .ref 10) fl_X3_67 rfl rfl rfl dX3_play_99 <|
 x_iload dX3_play_102 rfl <|
 x_iaload (v := ((gm σ 10) v5.toNatClampNeg)) rfl ((h.2 c1).2 c2).1 rfl dX3_play_104 <|
 x_iand dX3_play_105 <|
 x_if_eq (tgt := 190) dX3_play_106 (by decide) (fun c7 => x_iinc (v := (v5 + 1)) (L2 := [some (.ref 32), some (.ref 5), some (.int v2), some (.int v3), some (.int v4), some (.int (v5 + 1)), some (.int ((gm σ 8) v5.toNatClampNeg)), some (.int ((gm σ 9) v5.toNatClampNeg))]) dX3_play_190 rfl (by rw [show Int32.ofInt (1) = 1 by decide]) rfl (Nat.le_of_ble_eq_true rfl) <|
 x_goto (tgt := 7) dX3_play_193 (by decide) <|
 x_sub (L2 := [some (.ref 32), some (.ref 5), some (.int v2), some (.int v3), some (.int v4), some (.int (v5 + 1)), none, none]) ⟨rfl, rfl, rfl, rfl, rfl, rfl, trivial⟩ ((((h.2 c1).2 c2).2.2.2.1 c6).1 c7)) (fun c7 => x_aload_n dX3_play_109 rfl <|
 x_getf (v := .ref 34) fl_X3_15 rfl rfl rfl dX3_play_110 <|
 x_iload dX3_play_113 rfl <|
 x_dup2 dX3_play_115 rfl rfl <|
 x_iaload (v := ((gm σ 34) ((gm σ 9) v5.toNatClampNeg).toNatClampNeg)) rfl ((((h.2 c1).2 c2).2.2.2.1 c6).2 c7).1 rfl dX3_play_116 <|
 x_aload_n dX3_play_117 rfl <|
 x_getf (v := .ref 34) fl_X3_15 rfl rfl rfl dX3_play_118 <|
 x_iload dX3_play_121 rfl <|
 x_iaload (v := ((gm σ 34) ((gm σ 8) v5.toNatClampNeg).toNatClampNeg)) rfl ((((h.2 c1).2 c2).2.2.2.1 c6).2 c7).2.1 rfl dX3_play_123 <|
 x_ior dX3_play_124 <|
 x_iastore rfl ((((h.2 c1).2 c2).2.2.2.1 c6).2 c7).1 dX3_play_125 <|
 x_goto (tgt := 190) dX3_play_126 (by decide) <|
 x_iinc (v := (v5 + 1)) (L2 := [some (.ref 32), some (.ref 5), some (.int v2), some (.int v3), some (.int v4), some (.int (v5 + 1)), some (.int ((gm σ 8) v5.toNatClampNeg)), some (.int ((gm σ 9) v5.toNatClampNeg))]) dX3_play_190 rfl (by rw [show Int32.ofInt (1) = 1 by decide]) rfl (Nat.le_of_ble_eq_true rfl) <|
 x_goto (tgt := 7) dX3_play_193 (by decide) <|
 x_sub (L2 := [some (.ref 32), some (.ref 5), some (.int v2), some (.int v3), some (.int v4), some (.int (v5 + 1)), none, none]) ⟨rfl, rfl, rfl, rfl, rfl, rfl, trivial⟩ ((((h.2 c1).2 c2).2.2.2.1 c6).2 c7).2.2)
  | 2, ho, hi =>
    have e0 : (82 : Int) = off := Option.some.inj ho
    have e : tgt = 129 := by omega
    subst e
    have c8 : ((gm σ 6) v5.toNatClampNeg).toInt = 2 := by omega
    exact x_iload dX3_play_129 rfl <|
 x_aload_n dX3_play_131 rfl <|
 x_getf (v := .int (gi σ 3204)) fl_X3_25 rfl rfl rfl dX3_play_132 <|
 x_icmp_ne (tgt := 190) dX3_play_135 (by decide) (fun c9 => x_iinc (v := (v5 + 1)) (L2 := [some (.ref 32), some (.ref 5), some (.int v2), some (.int v3), some (.int v4), some (.int (v5 + 1)), some (.int ((gm σ 8) v5.toNatClampNeg)), some (.int ((gm σ 9) v5.toNatClampNeg))]) dX3_play_190 rfl (by rw [show Int32.ofInt (1) = 1 by decide]) rfl (Nat.le_of_ble_eq_true rfl) <|
 x_goto (tgt := 7) dX3_play_193 (by decide) <|
 x_sub (L2 := [some (.ref 32), some (.ref 5), some (.int v2), some (.int v3), some (.int v4), some (.int (v5 + 1)), none, none]) ⟨rfl, rfl, rfl, rfl, rfl, rfl, trivial⟩ ((((h.2 c1).2 c2).2.2.2.2.1 c8).1 c9)) (fun c9 => x_aload_n dX3_play_138 rfl <|
 x_iload dX3_play_139 rfl <|
 x_callV (b := 32) (As := [.int ((gm σ 8) v5.toNatClampNeg)]) ok_X3_think ml_X3_70 (okM (by decide)) dX3_play_141 rfl rfl (Nat.le_of_ble_eq_true rfl) rfl rfl rfl ((((h.2 c1).2 c2).2.2.2.2.1 c8).2 c9) <|
 (kV (fun τ10 h11 => x_goto (tgt := 190) dX3_play_144 (by decide) <|
 x_iinc (v := (v5 + 1)) (L2 := [some (.ref 32), some (.ref 5), some (.int v2), some (.int v3), some (.int v4), some (.int (v5 + 1)), some (.int ((gm σ 8) v5.toNatClampNeg)), some (.int ((gm σ 9) v5.toNatClampNeg))]) dX3_play_190 rfl (by rw [show Int32.ofInt (1) = 1 by decide]) rfl (Nat.le_of_ble_eq_true rfl) <|
 x_goto (tgt := 7) dX3_play_193 (by decide) <|
 x_sub (L2 := [some (.ref 32), some (.ref 5), some (.int v2), some (.int v3), some (.int v4), some (.int (v5 + 1)), none, none]) ⟨rfl, rfl, rfl, rfl, rfl, rfl, trivial⟩ h11)))
  | 3, ho, hi =>
    have e0 : (100 : Int) = off := Option.some.inj ho
    have e : tgt = 147 := by omega
    subst e
    have c12 : ((gm σ 6) v5.toNatClampNeg).toInt = 3 := by omega
    exact x_iload dX3_play_147 rfl <|
 x_aload_n dX3_play_149 rfl <|
 x_getf (v := .int (gi σ 3204)) fl_X3_25 rfl rfl rfl dX3_play_150 <|
 x_icmp_ne (tgt := 190) dX3_play_153 (by decide) (fun c13 => x_iinc (v := (v5 + 1)) (L2 := [some (.ref 32), some (.ref 5), some (.int v2), some (.int v3), some (.int v4), some (.int (v5 + 1)), some (.int ((gm σ 8) v5.toNatClampNeg)), some (.int ((gm σ 9) v5.toNatClampNeg))]) dX3_play_190 rfl (by rw [show Int32.ofInt (1) = 1 by decide]) rfl (Nat.le_of_ble_eq_true rfl) <|
 x_goto (tgt := 7) dX3_play_193 (by decide) <|
 x_sub (L2 := [some (.ref 32), some (.ref 5), some (.int v2), some (.int v3), some (.int v4), some (.int (v5 + 1)), none, none]) ⟨rfl, rfl, rfl, rfl, rfl, rfl, trivial⟩ ((((h.2 c1).2 c2).2.2.2.2.2 c12).1 c13)) (fun c13 => x_aload_n dX3_play_156 rfl <|
 x_iload dX3_play_157 rfl <|
 x_aload_n dX3_play_159 rfl <|
 x_getf (v := .ref 7) fl_X3_74 rfl rfl rfl dX3_play_160 <|
 x_iload dX3_play_163 rfl <|
 x_iaload (v := ((gm σ 7) v5.toNatClampNeg)) rfl ((h.2 c1).2 c2).1 rfl dX3_play_165 <|
 x_callV (b := 32) (As := [.int ((gm σ 8) v5.toNatClampNeg), .int ((gm σ 7) v5.toNatClampNeg)]) ok_X3_say ml_X3_77 (okM (by decide)) dX3_play_166 rfl rfl (Nat.le_of_ble_eq_true rfl) rfl rfl rfl ((((h.2 c1).2 c2).2.2.2.2.2 c12).2 c13) <|
 (kV (fun τ14 h15 => x_goto (tgt := 190) dX3_play_169 (by decide) <|
 x_iinc (v := (v5 + 1)) (L2 := [some (.ref 32), some (.ref 5), some (.int v2), some (.int v3), some (.int v4), some (.int (v5 + 1)), some (.int ((gm σ 8) v5.toNatClampNeg)), some (.int ((gm σ 9) v5.toNatClampNeg))]) dX3_play_190 rfl (by rw [show Int32.ofInt (1) = 1 by decide]) rfl (Nat.le_of_ble_eq_true rfl) <|
 x_goto (tgt := 7) dX3_play_193 (by decide) <|
 x_sub (L2 := [some (.ref 32), some (.ref 5), some (.int v2), some (.int v3), some (.int v4), some (.int (v5 + 1)), none, none]) ⟨rfl, rfl, rfl, rfl, rfl, rfl, trivial⟩ h15)))
  | n + 4, ho, hi => exact absurd ho (by simp))))
set_option maxRecDepth 100000 in
set_option maxHeartbeats 4000000 in
theorem M_X3_play_32_5 {E : EV} {Q : Sg → Prop} {σ : Sg} {a2 : Int32} {a3 : Int32} {a4 : Int32} (h : K_X3_play_32_5_7 E Q σ a2 a3 a4 (if a2 < (0 : Int32) then (0 : Int32) else a2)) : MetV E mi_X3_play [.ref 32, .ref 5, .int a2, .int a3, .int a4] σ Q :=
 met_of (L := [some (.ref 32), some (.ref 5), some (.int a2), some (.int a3), some (.int a4), none, none, none]) pn_X3 rfl (Nat.le_of_ble_eq_true rfl) <|
 x_iload_n dX3_play_0 rfl <|
 x_iconst dX3_play_1 ic_0 <|
 x_mmax ml_X3_49 (okM (by decide)) (Nat.le_of_ble_eq_true rfl) dX3_play_2 <|
 x_istore (L2 := [some (.ref 32), some (.ref 5), some (.int a2), some (.int a3), some (.int a4), some (.int (if a2 < (0 : Int32) then (0 : Int32) else a2)), none, none]) dX3_play_5 rfl (Nat.le_of_ble_eq_true rfl) <|
 h
set_option maxRecDepth 100000 in
set_option maxHeartbeats 4000000 in
theorem M_X3_takeFrom_36_32 {E : EV} {Q : Sg → Prop} {σ : Sg} (h : Q (si (si (si (si (si (sa (sa (sa σ 37 (va_cpy (gm σ 33) (gm σ 37) ((0 : Int32)).toNatClampNeg ((0 : Int32)).toNatClampNeg ((8 : Int32)).toNatClampNeg)) 38 (va_cpy (gm σ 34) (gm σ 38) ((0 : Int32)).toNatClampNeg ((0 : Int32)).toNatClampNeg ((8 : Int32)).toNatClampNeg)) 39 (va_cpy (gm σ 35) (gm σ 39) ((0 : Int32)).toNatClampNeg ((0 : Int32)).toNatClampNeg ((8 : Int32)).toNatClampNeg)) 3603 (gi σ 3203)) 3604 (gi σ 3204)) 3605 (gi σ 3205)) 3606 (gi σ 3206)) 3607 (gi σ 3207))) : MetV E mi_X3_takeFrom [.ref 36, .ref 32] σ Q :=
 met_of (L := [some (.ref 36), some (.ref 32)]) pn_X3 rfl (Nat.le_of_ble_eq_true rfl) <|
 x_aload_n dX3_takeFrom_0 rfl <|
 x_getf (v := .ref 33) fl_X3_9 rfl rfl rfl dX3_takeFrom_1 <|
 x_iconst dX3_takeFrom_4 ic_0 <|
 x_aload_n dX3_takeFrom_5 rfl <|
 x_getf (v := .ref 37) fl_X3_9 rfl rfl rfl dX3_takeFrom_6 <|
 x_iconst dX3_takeFrom_9 ic_0 <|
 x_bipush dX3_takeFrom_10 bp_8 <|
 x_copy ml_X3_43 ⟨Nat.le_of_ble_eq_true rfl, Nat.le_of_ble_eq_true rfl⟩ rfl rfl (by decide) (by decide) (by decide) (by decide) (by decide) (Nat.le_of_ble_eq_true rfl) dX3_takeFrom_12 <|
 x_aload_n dX3_takeFrom_15 rfl <|
 x_getf (v := .ref 34) fl_X3_15 rfl rfl rfl dX3_takeFrom_16 <|
 x_iconst dX3_takeFrom_19 ic_0 <|
 x_aload_n dX3_takeFrom_20 rfl <|
 x_getf (v := .ref 38) fl_X3_15 rfl rfl rfl dX3_takeFrom_21 <|
 x_iconst dX3_takeFrom_24 ic_0 <|
 x_bipush dX3_takeFrom_25 bp_8 <|
 x_copy ml_X3_43 ⟨Nat.le_of_ble_eq_true rfl, Nat.le_of_ble_eq_true rfl⟩ rfl rfl (by decide) (by decide) (by decide) (by decide) (by decide) (Nat.le_of_ble_eq_true rfl) dX3_takeFrom_27 <|
 x_aload_n dX3_takeFrom_30 rfl <|
 x_getf (v := .ref 35) fl_X3_18 rfl rfl rfl dX3_takeFrom_31 <|
 x_iconst dX3_takeFrom_34 ic_0 <|
 x_aload_n dX3_takeFrom_35 rfl <|
 x_getf (v := .ref 39) fl_X3_18 rfl rfl rfl dX3_takeFrom_36 <|
 x_iconst dX3_takeFrom_39 ic_0 <|
 x_bipush dX3_takeFrom_40 bp_8 <|
 x_copy ml_X3_43 ⟨Nat.le_of_ble_eq_true rfl, Nat.le_of_ble_eq_true rfl⟩ rfl rfl (by decide) (by decide) (by decide) (by decide) (by decide) (Nat.le_of_ble_eq_true rfl) dX3_takeFrom_42 <|
 x_aload_n dX3_takeFrom_45 rfl <|
 x_aload_n dX3_takeFrom_46 rfl <|
 x_getf (v := .int (gi σ 3203)) fl_X3_21 rfl rfl rfl dX3_takeFrom_47 <|
 x_puti fp_X3_21 rfl rfl dX3_takeFrom_50 <|
 x_aload_n dX3_takeFrom_53 rfl <|
 x_aload_n dX3_takeFrom_54 rfl <|
 x_getf (v := .int (gi σ 3204)) fl_X3_25 rfl rfl rfl dX3_takeFrom_55 <|
 x_puti fp_X3_25 rfl rfl dX3_takeFrom_58 <|
 x_aload_n dX3_takeFrom_61 rfl <|
 x_aload_n dX3_takeFrom_62 rfl <|
 x_getf (v := .int (gi σ 3205)) fl_X3_28 rfl rfl rfl dX3_takeFrom_63 <|
 x_puti fp_X3_28 rfl rfl dX3_takeFrom_66 <|
 x_aload_n dX3_takeFrom_69 rfl <|
 x_aload_n dX3_takeFrom_70 rfl <|
 x_getf (v := .int (gi σ 3206)) fl_X3_31 rfl rfl rfl dX3_takeFrom_71 <|
 x_puti fp_X3_31 rfl rfl dX3_takeFrom_74 <|
 x_aload_n dX3_takeFrom_77 rfl <|
 x_aload_n dX3_takeFrom_78 rfl <|
 x_getf (v := .int (gi σ 3207)) fl_X3_34 rfl rfl rfl dX3_takeFrom_79 <|
 x_puti fp_X3_34 rfl rfl dX3_takeFrom_82 <|
 x_return rfl dX3_takeFrom_85 ⟨rfl, h⟩
set_option maxRecDepth 100000 in
set_option maxHeartbeats 4000000 in
theorem M_X3_choose_36 {E : EV} {Q : Sg → Int32 → Prop} {σ : Sg} {a1 : Int32} {a2 : Int32} (h : ((a2 = 0) → vp_in a1 8 ∧ ((¬ (((gm σ 38) a1.toNatClampNeg) &&& (256 : Int32)) = 0) → Q (sm σ 38 a1.toNatClampNeg (((gm σ 38) a1.toNatClampNeg) ||| (256 : Int32))) (0 : Int32)) ∧ (((((gm σ 38) a1.toNatClampNeg) &&& (256 : Int32)) = 0) → Q (sm σ 38 a1.toNatClampNeg (((gm σ 38) a1.toNatClampNeg) ||| (256 : Int32))) (1 : Int32))) ∧ ((¬ a2 = 0) → MetV E mi_X3_think [.ref 36, .int a1] σ (fun τ3 => vp_in a1 8 ∧ ((((gm τ3 39) a1.toNatClampNeg) = 0) → Q (sm τ3 39 a1.toNatClampNeg ((gm τ3 38) a1.toNatClampNeg)) (1 : Int32)) ∧ ((¬ ((gm τ3 39) a1.toNatClampNeg) = 0) → Q τ3 (0 : Int32))))) : MetI E mi_X3_choose [.ref 36, .int a1, .int a2] σ Q :=
 met_of (L := [some (.ref 36), some (.int a1), some (.int a2), none]) pn_X3 rfl (Nat.le_of_ble_eq_true rfl) <|
 x_iload_n dX3_choose_0 rfl <|
 x_if_eq (tgt := 34) dX3_choose_1 (by decide) (fun c1 => x_aload_n dX3_choose_34 rfl <|
 x_getf (v := .ref 38) fl_X3_15 rfl rfl rfl dX3_choose_35 <|
 x_iload_n dX3_choose_38 rfl <|
 x_iaload (v := ((gm σ 38) a1.toNatClampNeg)) rfl (h.1 c1).1 rfl dX3_choose_39 <|
 x_sipush dX3_choose_40 sp_256 <|
 x_iand dX3_choose_43 <|
 x_if_ne (tgt := 51) dX3_choose_44 (by decide) (fun c2 => x_iconst dX3_choose_51 ic_0 <|
 x_istore_n (L2 := [some (.ref 36), some (.int a1), some (.int a2), some (.int (0 : Int32))]) dX3_choose_52 rfl (Nat.le_of_ble_eq_true rfl) <|
 x_aload_n dX3_choose_53 rfl <|
 x_getf (v := .ref 38) fl_X3_15 rfl rfl rfl dX3_choose_54 <|
 x_iload_n dX3_choose_57 rfl <|
 x_dup2 dX3_choose_58 rfl rfl <|
 x_iaload (v := ((gm σ 38) a1.toNatClampNeg)) rfl (h.1 c1).1 rfl dX3_choose_59 <|
 x_sipush dX3_choose_60 sp_256 <|
 x_ior dX3_choose_63 <|
 x_iastore rfl (h.1 c1).1 dX3_choose_64 <|
 x_iload_n dX3_choose_65 rfl <|
 x_zreturn rfl (Or.inl rfl) dX3_choose_66 ⟨_, rfl, ((h.1 c1).2.1 c2)⟩) (fun c2 => x_iconst dX3_choose_47 ic_1 <|
 x_goto (tgt := 52) dX3_choose_48 (by decide) <|
 x_istore_n (L2 := [some (.ref 36), some (.int a1), some (.int a2), some (.int (1 : Int32))]) dX3_choose_52 rfl (Nat.le_of_ble_eq_true rfl) <|
 x_aload_n dX3_choose_53 rfl <|
 x_getf (v := .ref 38) fl_X3_15 rfl rfl rfl dX3_choose_54 <|
 x_iload_n dX3_choose_57 rfl <|
 x_dup2 dX3_choose_58 rfl rfl <|
 x_iaload (v := ((gm σ 38) a1.toNatClampNeg)) rfl (h.1 c1).1 rfl dX3_choose_59 <|
 x_sipush dX3_choose_60 sp_256 <|
 x_ior dX3_choose_63 <|
 x_iastore rfl (h.1 c1).1 dX3_choose_64 <|
 x_iload_n dX3_choose_65 rfl <|
 x_zreturn rfl (Or.inr rfl) dX3_choose_66 ⟨_, rfl, ((h.1 c1).2.2 c2)⟩)) (fun c1 => x_aload_n dX3_choose_4 rfl <|
 x_iload_n dX3_choose_5 rfl <|
 x_callV (b := 36) (As := [.int a1]) ok_X3_think ml_X3_70 (okM (by decide)) dX3_choose_6 rfl rfl (Nat.le_of_ble_eq_true rfl) rfl rfl rfl (h.2 c1) <|
 (kV (fun τ3 h4 => x_aload_n dX3_choose_9 rfl <|
 x_getf (v := .ref 39) fl_X3_18 rfl rfl rfl dX3_choose_10 <|
 x_iload_n dX3_choose_13 rfl <|
 x_iaload (v := ((gm τ3 39) a1.toNatClampNeg)) rfl h4.1 rfl dX3_choose_14 <|
 x_if_eq (tgt := 20) dX3_choose_15 (by decide) (fun c5 => x_aload_n dX3_choose_20 rfl <|
 x_getf (v := .ref 39) fl_X3_18 rfl rfl rfl dX3_choose_21 <|
 x_iload_n dX3_choose_24 rfl <|
 x_aload_n dX3_choose_25 rfl <|
 x_getf (v := .ref 38) fl_X3_15 rfl rfl rfl dX3_choose_26 <|
 x_iload_n dX3_choose_29 rfl <|
 x_iaload (v := ((gm τ3 38) a1.toNatClampNeg)) rfl h4.1 rfl dX3_choose_30 <|
 x_iastore rfl h4.1 dX3_choose_31 <|
 x_iconst dX3_choose_32 ic_1 <|
 x_zreturn rfl (Or.inr rfl) dX3_choose_33 ⟨_, rfl, (h4.2.1 c5)⟩) (fun c5 => x_iconst dX3_choose_18 ic_0 <|
 x_zreturn rfl (Or.inl rfl) dX3_choose_19 ⟨_, rfl, (h4.2.2 c5)⟩))))
set_option maxRecDepth 100000 in
set_option maxHeartbeats 4000000 in
theorem M_X3_stay_36 {E : EV} {Q : Sg → Prop} {σ : Sg} {a1 : Int32} {a2 : Int32} (h : vp_in a1 8 ∧ Q (si (sm σ 37 a1.toNatClampNeg a2) 3605 a1)) : MetV E mi_X3_stay [.ref 36, .int a1, .int a2] σ Q :=
 met_of (L := [some (.ref 36), some (.int a1), some (.int a2)]) pn_X3 rfl (Nat.le_of_ble_eq_true rfl) <|
 x_aload_n dX3_stay_0 rfl <|
 x_getf (v := .ref 37) fl_X3_9 rfl rfl rfl dX3_stay_1 <|
 x_iload_n dX3_stay_4 rfl <|
 x_iload_n dX3_stay_5 rfl <|
 x_iastore rfl h.1 dX3_stay_6 <|
 x_aload_n dX3_stay_7 rfl <|
 x_iload_n dX3_stay_8 rfl <|
 x_puti fp_X3_28 rfl rfl dX3_stay_9 <|
 x_return rfl dX3_stay_12 ⟨rfl, h.2⟩
def K_X3_thoseWithout_32_4 (E : EV) (Q : Sg → Int32 → Prop) (σ : Sg) (v1 : Int32) (v2 : Int32) : Prop := J E mi_X3_thoseWithout (tgM E mi_X3_thoseWithout (qI Q)) 4 [some (.ref 32), some (.int v1), some (.int v2)] [] σ
set_option maxRecDepth 100000 in
set_option maxHeartbeats 4000000 in
theorem B_X3_thoseWithout_32_4 {E : EV} {Q : Sg → Int32 → Prop} {σ : Sg} {v1 : Int32} {v2 : Int32} (h : (((gi σ 3203) ≤ v2) → Q σ v1) ∧ ((¬ (gi σ 3203) ≤ v2) → vp_in v2 8 ∧ ((¬ ((gm σ 34) v2.toNatClampNeg) = 0) → K_X3_thoseWithout_32_4 E Q σ v1 (v2 + 1)) ∧ ((((gm σ 34) v2.toNatClampNeg) = 0) → K_X3_thoseWithout_32_4 E Q σ (v1 ||| ((1 : Int32) <<< (v2 &&& 31))) (v2 + 1)))) : K_X3_thoseWithout_32_4 E Q σ v1 v2 :=
 x_iload_n dX3_thoseWithout_4 rfl <|
 x_aload_n dX3_thoseWithout_5 rfl <|
 x_getf (v := .int (gi σ 3203)) fl_X3_21 rfl rfl rfl dX3_thoseWithout_6 <|
 x_icmp_ge (tgt := 33) dX3_thoseWithout_9 (by decide) (fun c1 => x_iload_n dX3_thoseWithout_33 rfl <|
 x_ireturn rfl dX3_thoseWithout_34 ⟨_, rfl, (h.1 c1)⟩) (fun c1 => x_aload_n dX3_thoseWithout_12 rfl <|
 x_getf (v := .ref 34) fl_X3_15 rfl rfl rfl dX3_thoseWithout_13 <|
 x_iload_n dX3_thoseWithout_16 rfl <|
 x_iaload (v := ((gm σ 34) v2.toNatClampNeg)) rfl (h.2 c1).1 rfl dX3_thoseWithout_17 <|
 x_if_ne (tgt := 27) dX3_thoseWithout_18 (by decide) (fun c2 => x_iinc (v := (v2 + 1)) (L2 := [some (.ref 32), some (.int v1), some (.int (v2 + 1))]) dX3_thoseWithout_27 rfl (by rw [show Int32.ofInt (1) = 1 by decide]) rfl (Nat.le_of_ble_eq_true rfl) <|
 x_goto (tgt := 4) dX3_thoseWithout_30 (by decide) <|
 ((h.2 c1).2.1 c2)) (fun c2 => x_iload_n dX3_thoseWithout_21 rfl <|
 x_iconst dX3_thoseWithout_22 ic_1 <|
 x_iload_n dX3_thoseWithout_23 rfl <|
 x_ishl dX3_thoseWithout_24 <|
 x_ior dX3_thoseWithout_25 <|
 x_istore_n (L2 := [some (.ref 32), some (.int (v1 ||| ((1 : Int32) <<< (v2 &&& 31)))), some (.int v2)]) dX3_thoseWithout_26 rfl (Nat.le_of_ble_eq_true rfl) <|
 x_iinc (v := (v2 + 1)) (L2 := [some (.ref 32), some (.int (v1 ||| ((1 : Int32) <<< (v2 &&& 31)))), some (.int (v2 + 1))]) dX3_thoseWithout_27 rfl (by rw [show Int32.ofInt (1) = 1 by decide]) rfl (Nat.le_of_ble_eq_true rfl) <|
 x_goto (tgt := 4) dX3_thoseWithout_30 (by decide) <|
 ((h.2 c1).2.2 c2)))
set_option maxRecDepth 100000 in
set_option maxHeartbeats 4000000 in
theorem M_X3_thoseWithout_32 {E : EV} {Q : Sg → Int32 → Prop} {σ : Sg} (h : K_X3_thoseWithout_32_4 E Q σ (0 : Int32) (0 : Int32)) : MetI E mi_X3_thoseWithout [.ref 32] σ Q :=
 met_of (L := [some (.ref 32), none, none]) pn_X3 rfl (Nat.le_of_ble_eq_true rfl) <|
 x_iconst dX3_thoseWithout_0 ic_0 <|
 x_istore_n (L2 := [some (.ref 32), some (.int (0 : Int32)), none]) dX3_thoseWithout_1 rfl (Nat.le_of_ble_eq_true rfl) <|
 x_iconst dX3_thoseWithout_2 ic_0 <|
 x_istore_n (L2 := [some (.ref 32), some (.int (0 : Int32)), some (.int (0 : Int32))]) dX3_thoseWithout_3 rfl (Nat.le_of_ble_eq_true rfl) <|
 h
set_option maxRecDepth 100000 in
set_option maxHeartbeats 4000000 in
theorem M_X0_takeFrom_26_5 {E : EV} {Q : Sg → Prop} {σ : Sg} (h : Q (si (si (si (sa (sa (sa (sa (sa σ 27 (va_cpy (gm σ 6) (gm σ 27) ((0 : Int32)).toNatClampNeg ((0 : Int32)).toNatClampNeg ((40 : Int32)).toNatClampNeg)) 28 (va_cpy (gm σ 7) (gm σ 28) ((0 : Int32)).toNatClampNeg ((0 : Int32)).toNatClampNeg ((40 : Int32)).toNatClampNeg)) 29 (va_cpy (gm σ 8) (gm σ 29) ((0 : Int32)).toNatClampNeg ((0 : Int32)).toNatClampNeg ((40 : Int32)).toNatClampNeg)) 30 (va_cpy (gm σ 9) (gm σ 30) ((0 : Int32)).toNatClampNeg ((0 : Int32)).toNatClampNeg ((40 : Int32)).toNatClampNeg)) 31 (va_cpy (gm σ 10) (gm σ 31) ((0 : Int32)).toNatClampNeg ((0 : Int32)).toNatClampNeg ((40 : Int32)).toNatClampNeg)) 2605 (gi σ 505)) 2606 (gi σ 506)) 2607 (gi σ 507))) : MetV E mi_X0_takeFrom [.ref 26, .ref 5] σ Q :=
 met_of (L := [some (.ref 26), some (.ref 5)]) pn_X0 rfl (Nat.le_of_ble_eq_true rfl) <|
 x_aload_n dX0_takeFrom_0 rfl <|
 x_getf (v := .ref 6) fl_X0_9 rfl rfl rfl dX0_takeFrom_1 <|
 x_iconst dX0_takeFrom_4 ic_0 <|
 x_aload_n dX0_takeFrom_5 rfl <|
 x_getf (v := .ref 27) fl_X0_9 rfl rfl rfl dX0_takeFrom_6 <|
 x_iconst dX0_takeFrom_9 ic_0 <|
 x_bipush dX0_takeFrom_10 bp_40 <|
 x_copy ml_X0_41 ⟨Nat.le_of_ble_eq_true rfl, Nat.le_of_ble_eq_true rfl⟩ rfl rfl (by decide) (by decide) (by decide) (by decide) (by decide) (Nat.le_of_ble_eq_true rfl) dX0_takeFrom_12 <|
 x_aload_n dX0_takeFrom_15 rfl <|
 x_getf (v := .ref 7) fl_X0_15 rfl rfl rfl dX0_takeFrom_16 <|
 x_iconst dX0_takeFrom_19 ic_0 <|
 x_aload_n dX0_takeFrom_20 rfl <|
 x_getf (v := .ref 28) fl_X0_15 rfl rfl rfl dX0_takeFrom_21 <|
 x_iconst dX0_takeFrom_24 ic_0 <|
 x_bipush dX0_takeFrom_25 bp_40 <|
 x_copy ml_X0_41 ⟨Nat.le_of_ble_eq_true rfl, Nat.le_of_ble_eq_true rfl⟩ rfl rfl (by decide) (by decide) (by decide) (by decide) (by decide) (Nat.le_of_ble_eq_true rfl) dX0_takeFrom_27 <|
 x_aload_n dX0_takeFrom_30 rfl <|
 x_getf (v := .ref 8) fl_X0_18 rfl rfl rfl dX0_takeFrom_31 <|
 x_iconst dX0_takeFrom_34 ic_0 <|
 x_aload_n dX0_takeFrom_35 rfl <|
 x_getf (v := .ref 29) fl_X0_18 rfl rfl rfl dX0_takeFrom_36 <|
 x_iconst dX0_takeFrom_39 ic_0 <|
 x_bipush dX0_takeFrom_40 bp_40 <|
 x_copy ml_X0_41 ⟨Nat.le_of_ble_eq_true rfl, Nat.le_of_ble_eq_true rfl⟩ rfl rfl (by decide) (by decide) (by decide) (by decide) (by decide) (Nat.le_of_ble_eq_true rfl) dX0_takeFrom_42 <|
 x_aload_n dX0_takeFrom_45 rfl <|
 x_getf (v := .ref 9) fl_X0_21 rfl rfl rfl dX0_takeFrom_46 <|
 x_iconst dX0_takeFrom_49 ic_0 <|
 x_aload_n dX0_takeFrom_50 rfl <|
 x_getf (v := .ref 30) fl_X0_21 rfl rfl rfl dX0_takeFrom_51 <|
 x_iconst dX0_takeFrom_54 ic_0 <|
 x_bipush dX0_takeFrom_55 bp_40 <|
 x_copy ml_X0_41 ⟨Nat.le_of_ble_eq_true rfl, Nat.le_of_ble_eq_true rfl⟩ rfl rfl (by decide) (by decide) (by decide) (by decide) (by decide) (Nat.le_of_ble_eq_true rfl) dX0_takeFrom_57 <|
 x_aload_n dX0_takeFrom_60 rfl <|
 x_getf (v := .ref 10) fl_X0_24 rfl rfl rfl dX0_takeFrom_61 <|
 x_iconst dX0_takeFrom_64 ic_0 <|
 x_aload_n dX0_takeFrom_65 rfl <|
 x_getf (v := .ref 31) fl_X0_24 rfl rfl rfl dX0_takeFrom_66 <|
 x_iconst dX0_takeFrom_69 ic_0 <|
 x_bipush dX0_takeFrom_70 bp_40 <|
 x_copy ml_X0_41 ⟨Nat.le_of_ble_eq_true rfl, Nat.le_of_ble_eq_true rfl⟩ rfl rfl (by decide) (by decide) (by decide) (by decide) (by decide) (Nat.le_of_ble_eq_true rfl) dX0_takeFrom_72 <|
 x_aload_n dX0_takeFrom_75 rfl <|
 x_aload_n dX0_takeFrom_76 rfl <|
 x_getf (v := .int (gi σ 505)) fl_X0_27 rfl rfl rfl dX0_takeFrom_77 <|
 x_puti fp_X0_27 rfl rfl dX0_takeFrom_80 <|
 x_aload_n dX0_takeFrom_83 rfl <|
 x_aload_n dX0_takeFrom_84 rfl <|
 x_getf (v := .int (gi σ 506)) fl_X0_31 rfl rfl rfl dX0_takeFrom_85 <|
 x_puti fp_X0_31 rfl rfl dX0_takeFrom_88 <|
 x_aload_n dX0_takeFrom_91 rfl <|
 x_aload_n dX0_takeFrom_92 rfl <|
 x_getf (v := .int (gi σ 507)) fl_X0_34 rfl rfl rfl dX0_takeFrom_93 <|
 x_puti fp_X0_34 rfl rfl dX0_takeFrom_96 <|
 x_return rfl dX0_takeFrom_99 ⟨rfl, h⟩
set_option maxRecDepth 100000 in
set_option maxHeartbeats 4000000 in
theorem M_X0_takeFrom_20_5 {E : EV} {Q : Sg → Prop} {σ : Sg} (h : Q (si (si (si (sa (sa (sa (sa (sa σ 21 (va_cpy (gm σ 6) (gm σ 21) ((0 : Int32)).toNatClampNeg ((0 : Int32)).toNatClampNeg ((40 : Int32)).toNatClampNeg)) 22 (va_cpy (gm σ 7) (gm σ 22) ((0 : Int32)).toNatClampNeg ((0 : Int32)).toNatClampNeg ((40 : Int32)).toNatClampNeg)) 23 (va_cpy (gm σ 8) (gm σ 23) ((0 : Int32)).toNatClampNeg ((0 : Int32)).toNatClampNeg ((40 : Int32)).toNatClampNeg)) 24 (va_cpy (gm σ 9) (gm σ 24) ((0 : Int32)).toNatClampNeg ((0 : Int32)).toNatClampNeg ((40 : Int32)).toNatClampNeg)) 25 (va_cpy (gm σ 10) (gm σ 25) ((0 : Int32)).toNatClampNeg ((0 : Int32)).toNatClampNeg ((40 : Int32)).toNatClampNeg)) 2005 (gi σ 505)) 2006 (gi σ 506)) 2007 (gi σ 507))) : MetV E mi_X0_takeFrom [.ref 20, .ref 5] σ Q :=
 met_of (L := [some (.ref 20), some (.ref 5)]) pn_X0 rfl (Nat.le_of_ble_eq_true rfl) <|
 x_aload_n dX0_takeFrom_0 rfl <|
 x_getf (v := .ref 6) fl_X0_9 rfl rfl rfl dX0_takeFrom_1 <|
 x_iconst dX0_takeFrom_4 ic_0 <|
 x_aload_n dX0_takeFrom_5 rfl <|
 x_getf (v := .ref 21) fl_X0_9 rfl rfl rfl dX0_takeFrom_6 <|
 x_iconst dX0_takeFrom_9 ic_0 <|
 x_bipush dX0_takeFrom_10 bp_40 <|
 x_copy ml_X0_41 ⟨Nat.le_of_ble_eq_true rfl, Nat.le_of_ble_eq_true rfl⟩ rfl rfl (by decide) (by decide) (by decide) (by decide) (by decide) (Nat.le_of_ble_eq_true rfl) dX0_takeFrom_12 <|
 x_aload_n dX0_takeFrom_15 rfl <|
 x_getf (v := .ref 7) fl_X0_15 rfl rfl rfl dX0_takeFrom_16 <|
 x_iconst dX0_takeFrom_19 ic_0 <|
 x_aload_n dX0_takeFrom_20 rfl <|
 x_getf (v := .ref 22) fl_X0_15 rfl rfl rfl dX0_takeFrom_21 <|
 x_iconst dX0_takeFrom_24 ic_0 <|
 x_bipush dX0_takeFrom_25 bp_40 <|
 x_copy ml_X0_41 ⟨Nat.le_of_ble_eq_true rfl, Nat.le_of_ble_eq_true rfl⟩ rfl rfl (by decide) (by decide) (by decide) (by decide) (by decide) (Nat.le_of_ble_eq_true rfl) dX0_takeFrom_27 <|
 x_aload_n dX0_takeFrom_30 rfl <|
 x_getf (v := .ref 8) fl_X0_18 rfl rfl rfl dX0_takeFrom_31 <|
 x_iconst dX0_takeFrom_34 ic_0 <|
 x_aload_n dX0_takeFrom_35 rfl <|
 x_getf (v := .ref 23) fl_X0_18 rfl rfl rfl dX0_takeFrom_36 <|
 x_iconst dX0_takeFrom_39 ic_0 <|
 x_bipush dX0_takeFrom_40 bp_40 <|
 x_copy ml_X0_41 ⟨Nat.le_of_ble_eq_true rfl, Nat.le_of_ble_eq_true rfl⟩ rfl rfl (by decide) (by decide) (by decide) (by decide) (by decide) (Nat.le_of_ble_eq_true rfl) dX0_takeFrom_42 <|
 x_aload_n dX0_takeFrom_45 rfl <|
 x_getf (v := .ref 9) fl_X0_21 rfl rfl rfl dX0_takeFrom_46 <|
 x_iconst dX0_takeFrom_49 ic_0 <|
 x_aload_n dX0_takeFrom_50 rfl <|
 x_getf (v := .ref 24) fl_X0_21 rfl rfl rfl dX0_takeFrom_51 <|
 x_iconst dX0_takeFrom_54 ic_0 <|
 x_bipush dX0_takeFrom_55 bp_40 <|
 x_copy ml_X0_41 ⟨Nat.le_of_ble_eq_true rfl, Nat.le_of_ble_eq_true rfl⟩ rfl rfl (by decide) (by decide) (by decide) (by decide) (by decide) (Nat.le_of_ble_eq_true rfl) dX0_takeFrom_57 <|
 x_aload_n dX0_takeFrom_60 rfl <|
 x_getf (v := .ref 10) fl_X0_24 rfl rfl rfl dX0_takeFrom_61 <|
 x_iconst dX0_takeFrom_64 ic_0 <|
 x_aload_n dX0_takeFrom_65 rfl <|
 x_getf (v := .ref 25) fl_X0_24 rfl rfl rfl dX0_takeFrom_66 <|
 x_iconst dX0_takeFrom_69 ic_0 <|
 x_bipush dX0_takeFrom_70 bp_40 <|
 x_copy ml_X0_41 ⟨Nat.le_of_ble_eq_true rfl, Nat.le_of_ble_eq_true rfl⟩ rfl rfl (by decide) (by decide) (by decide) (by decide) (by decide) (Nat.le_of_ble_eq_true rfl) dX0_takeFrom_72 <|
 x_aload_n dX0_takeFrom_75 rfl <|
 x_aload_n dX0_takeFrom_76 rfl <|
 x_getf (v := .int (gi σ 505)) fl_X0_27 rfl rfl rfl dX0_takeFrom_77 <|
 x_puti fp_X0_27 rfl rfl dX0_takeFrom_80 <|
 x_aload_n dX0_takeFrom_83 rfl <|
 x_aload_n dX0_takeFrom_84 rfl <|
 x_getf (v := .int (gi σ 506)) fl_X0_31 rfl rfl rfl dX0_takeFrom_85 <|
 x_puti fp_X0_31 rfl rfl dX0_takeFrom_88 <|
 x_aload_n dX0_takeFrom_91 rfl <|
 x_aload_n dX0_takeFrom_92 rfl <|
 x_getf (v := .int (gi σ 507)) fl_X0_34 rfl rfl rfl dX0_takeFrom_93 <|
 x_puti fp_X0_34 rfl rfl dX0_takeFrom_96 <|
 x_return rfl dX0_takeFrom_99 ⟨rfl, h⟩
set_option maxRecDepth 100000 in
set_option maxHeartbeats 4000000 in
theorem M_X0_takeFrom_5_26 {E : EV} {Q : Sg → Prop} {σ : Sg} (h : Q (si (si (si (sa (sa (sa (sa (sa σ 6 (va_cpy (gm σ 27) (gm σ 6) ((0 : Int32)).toNatClampNeg ((0 : Int32)).toNatClampNeg ((40 : Int32)).toNatClampNeg)) 7 (va_cpy (gm σ 28) (gm σ 7) ((0 : Int32)).toNatClampNeg ((0 : Int32)).toNatClampNeg ((40 : Int32)).toNatClampNeg)) 8 (va_cpy (gm σ 29) (gm σ 8) ((0 : Int32)).toNatClampNeg ((0 : Int32)).toNatClampNeg ((40 : Int32)).toNatClampNeg)) 9 (va_cpy (gm σ 30) (gm σ 9) ((0 : Int32)).toNatClampNeg ((0 : Int32)).toNatClampNeg ((40 : Int32)).toNatClampNeg)) 10 (va_cpy (gm σ 31) (gm σ 10) ((0 : Int32)).toNatClampNeg ((0 : Int32)).toNatClampNeg ((40 : Int32)).toNatClampNeg)) 505 (gi σ 2605)) 506 (gi σ 2606)) 507 (gi σ 2607))) : MetV E mi_X0_takeFrom [.ref 5, .ref 26] σ Q :=
 met_of (L := [some (.ref 5), some (.ref 26)]) pn_X0 rfl (Nat.le_of_ble_eq_true rfl) <|
 x_aload_n dX0_takeFrom_0 rfl <|
 x_getf (v := .ref 27) fl_X0_9 rfl rfl rfl dX0_takeFrom_1 <|
 x_iconst dX0_takeFrom_4 ic_0 <|
 x_aload_n dX0_takeFrom_5 rfl <|
 x_getf (v := .ref 6) fl_X0_9 rfl rfl rfl dX0_takeFrom_6 <|
 x_iconst dX0_takeFrom_9 ic_0 <|
 x_bipush dX0_takeFrom_10 bp_40 <|
 x_copy ml_X0_41 ⟨Nat.le_of_ble_eq_true rfl, Nat.le_of_ble_eq_true rfl⟩ rfl rfl (by decide) (by decide) (by decide) (by decide) (by decide) (Nat.le_of_ble_eq_true rfl) dX0_takeFrom_12 <|
 x_aload_n dX0_takeFrom_15 rfl <|
 x_getf (v := .ref 28) fl_X0_15 rfl rfl rfl dX0_takeFrom_16 <|
 x_iconst dX0_takeFrom_19 ic_0 <|
 x_aload_n dX0_takeFrom_20 rfl <|
 x_getf (v := .ref 7) fl_X0_15 rfl rfl rfl dX0_takeFrom_21 <|
 x_iconst dX0_takeFrom_24 ic_0 <|
 x_bipush dX0_takeFrom_25 bp_40 <|
 x_copy ml_X0_41 ⟨Nat.le_of_ble_eq_true rfl, Nat.le_of_ble_eq_true rfl⟩ rfl rfl (by decide) (by decide) (by decide) (by decide) (by decide) (Nat.le_of_ble_eq_true rfl) dX0_takeFrom_27 <|
 x_aload_n dX0_takeFrom_30 rfl <|
 x_getf (v := .ref 29) fl_X0_18 rfl rfl rfl dX0_takeFrom_31 <|
 x_iconst dX0_takeFrom_34 ic_0 <|
 x_aload_n dX0_takeFrom_35 rfl <|
 x_getf (v := .ref 8) fl_X0_18 rfl rfl rfl dX0_takeFrom_36 <|
 x_iconst dX0_takeFrom_39 ic_0 <|
 x_bipush dX0_takeFrom_40 bp_40 <|
 x_copy ml_X0_41 ⟨Nat.le_of_ble_eq_true rfl, Nat.le_of_ble_eq_true rfl⟩ rfl rfl (by decide) (by decide) (by decide) (by decide) (by decide) (Nat.le_of_ble_eq_true rfl) dX0_takeFrom_42 <|
 x_aload_n dX0_takeFrom_45 rfl <|
 x_getf (v := .ref 30) fl_X0_21 rfl rfl rfl dX0_takeFrom_46 <|
 x_iconst dX0_takeFrom_49 ic_0 <|
 x_aload_n dX0_takeFrom_50 rfl <|
 x_getf (v := .ref 9) fl_X0_21 rfl rfl rfl dX0_takeFrom_51 <|
 x_iconst dX0_takeFrom_54 ic_0 <|
 x_bipush dX0_takeFrom_55 bp_40 <|
 x_copy ml_X0_41 ⟨Nat.le_of_ble_eq_true rfl, Nat.le_of_ble_eq_true rfl⟩ rfl rfl (by decide) (by decide) (by decide) (by decide) (by decide) (Nat.le_of_ble_eq_true rfl) dX0_takeFrom_57 <|
 x_aload_n dX0_takeFrom_60 rfl <|
 x_getf (v := .ref 31) fl_X0_24 rfl rfl rfl dX0_takeFrom_61 <|
 x_iconst dX0_takeFrom_64 ic_0 <|
 x_aload_n dX0_takeFrom_65 rfl <|
 x_getf (v := .ref 10) fl_X0_24 rfl rfl rfl dX0_takeFrom_66 <|
 x_iconst dX0_takeFrom_69 ic_0 <|
 x_bipush dX0_takeFrom_70 bp_40 <|
 x_copy ml_X0_41 ⟨Nat.le_of_ble_eq_true rfl, Nat.le_of_ble_eq_true rfl⟩ rfl rfl (by decide) (by decide) (by decide) (by decide) (by decide) (Nat.le_of_ble_eq_true rfl) dX0_takeFrom_72 <|
 x_aload_n dX0_takeFrom_75 rfl <|
 x_aload_n dX0_takeFrom_76 rfl <|
 x_getf (v := .int (gi σ 2605)) fl_X0_27 rfl rfl rfl dX0_takeFrom_77 <|
 x_puti fp_X0_27 rfl rfl dX0_takeFrom_80 <|
 x_aload_n dX0_takeFrom_83 rfl <|
 x_aload_n dX0_takeFrom_84 rfl <|
 x_getf (v := .int (gi σ 2606)) fl_X0_31 rfl rfl rfl dX0_takeFrom_85 <|
 x_puti fp_X0_31 rfl rfl dX0_takeFrom_88 <|
 x_aload_n dX0_takeFrom_91 rfl <|
 x_aload_n dX0_takeFrom_92 rfl <|
 x_getf (v := .int (gi σ 2607)) fl_X0_34 rfl rfl rfl dX0_takeFrom_93 <|
 x_puti fp_X0_34 rfl rfl dX0_takeFrom_96 <|
 x_return rfl dX0_takeFrom_99 ⟨rfl, h⟩
set_option maxRecDepth 100000 in
set_option maxHeartbeats 4000000 in
theorem M_X0_takeFrom_5_20 {E : EV} {Q : Sg → Prop} {σ : Sg} (h : Q (si (si (si (sa (sa (sa (sa (sa σ 6 (va_cpy (gm σ 21) (gm σ 6) ((0 : Int32)).toNatClampNeg ((0 : Int32)).toNatClampNeg ((40 : Int32)).toNatClampNeg)) 7 (va_cpy (gm σ 22) (gm σ 7) ((0 : Int32)).toNatClampNeg ((0 : Int32)).toNatClampNeg ((40 : Int32)).toNatClampNeg)) 8 (va_cpy (gm σ 23) (gm σ 8) ((0 : Int32)).toNatClampNeg ((0 : Int32)).toNatClampNeg ((40 : Int32)).toNatClampNeg)) 9 (va_cpy (gm σ 24) (gm σ 9) ((0 : Int32)).toNatClampNeg ((0 : Int32)).toNatClampNeg ((40 : Int32)).toNatClampNeg)) 10 (va_cpy (gm σ 25) (gm σ 10) ((0 : Int32)).toNatClampNeg ((0 : Int32)).toNatClampNeg ((40 : Int32)).toNatClampNeg)) 505 (gi σ 2005)) 506 (gi σ 2006)) 507 (gi σ 2007))) : MetV E mi_X0_takeFrom [.ref 5, .ref 20] σ Q :=
 met_of (L := [some (.ref 5), some (.ref 20)]) pn_X0 rfl (Nat.le_of_ble_eq_true rfl) <|
 x_aload_n dX0_takeFrom_0 rfl <|
 x_getf (v := .ref 21) fl_X0_9 rfl rfl rfl dX0_takeFrom_1 <|
 x_iconst dX0_takeFrom_4 ic_0 <|
 x_aload_n dX0_takeFrom_5 rfl <|
 x_getf (v := .ref 6) fl_X0_9 rfl rfl rfl dX0_takeFrom_6 <|
 x_iconst dX0_takeFrom_9 ic_0 <|
 x_bipush dX0_takeFrom_10 bp_40 <|
 x_copy ml_X0_41 ⟨Nat.le_of_ble_eq_true rfl, Nat.le_of_ble_eq_true rfl⟩ rfl rfl (by decide) (by decide) (by decide) (by decide) (by decide) (Nat.le_of_ble_eq_true rfl) dX0_takeFrom_12 <|
 x_aload_n dX0_takeFrom_15 rfl <|
 x_getf (v := .ref 22) fl_X0_15 rfl rfl rfl dX0_takeFrom_16 <|
 x_iconst dX0_takeFrom_19 ic_0 <|
 x_aload_n dX0_takeFrom_20 rfl <|
 x_getf (v := .ref 7) fl_X0_15 rfl rfl rfl dX0_takeFrom_21 <|
 x_iconst dX0_takeFrom_24 ic_0 <|
 x_bipush dX0_takeFrom_25 bp_40 <|
 x_copy ml_X0_41 ⟨Nat.le_of_ble_eq_true rfl, Nat.le_of_ble_eq_true rfl⟩ rfl rfl (by decide) (by decide) (by decide) (by decide) (by decide) (Nat.le_of_ble_eq_true rfl) dX0_takeFrom_27 <|
 x_aload_n dX0_takeFrom_30 rfl <|
 x_getf (v := .ref 23) fl_X0_18 rfl rfl rfl dX0_takeFrom_31 <|
 x_iconst dX0_takeFrom_34 ic_0 <|
 x_aload_n dX0_takeFrom_35 rfl <|
 x_getf (v := .ref 8) fl_X0_18 rfl rfl rfl dX0_takeFrom_36 <|
 x_iconst dX0_takeFrom_39 ic_0 <|
 x_bipush dX0_takeFrom_40 bp_40 <|
 x_copy ml_X0_41 ⟨Nat.le_of_ble_eq_true rfl, Nat.le_of_ble_eq_true rfl⟩ rfl rfl (by decide) (by decide) (by decide) (by decide) (by decide) (Nat.le_of_ble_eq_true rfl) dX0_takeFrom_42 <|
 x_aload_n dX0_takeFrom_45 rfl <|
 x_getf (v := .ref 24) fl_X0_21 rfl rfl rfl dX0_takeFrom_46 <|
 x_iconst dX0_takeFrom_49 ic_0 <|
 x_aload_n dX0_takeFrom_50 rfl <|
 x_getf (v := .ref 9) fl_X0_21 rfl rfl rfl dX0_takeFrom_51 <|
 x_iconst dX0_takeFrom_54 ic_0 <|
 x_bipush dX0_takeFrom_55 bp_40 <|
 x_copy ml_X0_41 ⟨Nat.le_of_ble_eq_true rfl, Nat.le_of_ble_eq_true rfl⟩ rfl rfl (by decide) (by decide) (by decide) (by decide) (by decide) (Nat.le_of_ble_eq_true rfl) dX0_takeFrom_57 <|
 x_aload_n dX0_takeFrom_60 rfl <|
 x_getf (v := .ref 25) fl_X0_24 rfl rfl rfl dX0_takeFrom_61 <|
 x_iconst dX0_takeFrom_64 ic_0 <|
 x_aload_n dX0_takeFrom_65 rfl <|
 x_getf (v := .ref 10) fl_X0_24 rfl rfl rfl dX0_takeFrom_66 <|
 x_iconst dX0_takeFrom_69 ic_0 <|
 x_bipush dX0_takeFrom_70 bp_40 <|
 x_copy ml_X0_41 ⟨Nat.le_of_ble_eq_true rfl, Nat.le_of_ble_eq_true rfl⟩ rfl rfl (by decide) (by decide) (by decide) (by decide) (by decide) (Nat.le_of_ble_eq_true rfl) dX0_takeFrom_72 <|
 x_aload_n dX0_takeFrom_75 rfl <|
 x_aload_n dX0_takeFrom_76 rfl <|
 x_getf (v := .int (gi σ 2005)) fl_X0_27 rfl rfl rfl dX0_takeFrom_77 <|
 x_puti fp_X0_27 rfl rfl dX0_takeFrom_80 <|
 x_aload_n dX0_takeFrom_83 rfl <|
 x_aload_n dX0_takeFrom_84 rfl <|
 x_getf (v := .int (gi σ 2006)) fl_X0_31 rfl rfl rfl dX0_takeFrom_85 <|
 x_puti fp_X0_31 rfl rfl dX0_takeFrom_88 <|
 x_aload_n dX0_takeFrom_91 rfl <|
 x_aload_n dX0_takeFrom_92 rfl <|
 x_getf (v := .int (gi σ 2007)) fl_X0_34 rfl rfl rfl dX0_takeFrom_93 <|
 x_puti fp_X0_34 rfl rfl dX0_takeFrom_96 <|
 x_return rfl dX0_takeFrom_99 ⟨rfl, h⟩
set_option maxRecDepth 100000 in
set_option maxHeartbeats 4000000 in
theorem M_X3_choose_32 {E : EV} {Q : Sg → Int32 → Prop} {σ : Sg} {a1 : Int32} {a2 : Int32} (h : ((a2 = 0) → vp_in a1 8 ∧ ((¬ (((gm σ 34) a1.toNatClampNeg) &&& (256 : Int32)) = 0) → Q (sm σ 34 a1.toNatClampNeg (((gm σ 34) a1.toNatClampNeg) ||| (256 : Int32))) (0 : Int32)) ∧ (((((gm σ 34) a1.toNatClampNeg) &&& (256 : Int32)) = 0) → Q (sm σ 34 a1.toNatClampNeg (((gm σ 34) a1.toNatClampNeg) ||| (256 : Int32))) (1 : Int32))) ∧ ((¬ a2 = 0) → MetV E mi_X3_think [.ref 32, .int a1] σ (fun τ3 => vp_in a1 8 ∧ ((((gm τ3 35) a1.toNatClampNeg) = 0) → Q (sm τ3 35 a1.toNatClampNeg ((gm τ3 34) a1.toNatClampNeg)) (1 : Int32)) ∧ ((¬ ((gm τ3 35) a1.toNatClampNeg) = 0) → Q τ3 (0 : Int32))))) : MetI E mi_X3_choose [.ref 32, .int a1, .int a2] σ Q :=
 met_of (L := [some (.ref 32), some (.int a1), some (.int a2), none]) pn_X3 rfl (Nat.le_of_ble_eq_true rfl) <|
 x_iload_n dX3_choose_0 rfl <|
 x_if_eq (tgt := 34) dX3_choose_1 (by decide) (fun c1 => x_aload_n dX3_choose_34 rfl <|
 x_getf (v := .ref 34) fl_X3_15 rfl rfl rfl dX3_choose_35 <|
 x_iload_n dX3_choose_38 rfl <|
 x_iaload (v := ((gm σ 34) a1.toNatClampNeg)) rfl (h.1 c1).1 rfl dX3_choose_39 <|
 x_sipush dX3_choose_40 sp_256 <|
 x_iand dX3_choose_43 <|
 x_if_ne (tgt := 51) dX3_choose_44 (by decide) (fun c2 => x_iconst dX3_choose_51 ic_0 <|
 x_istore_n (L2 := [some (.ref 32), some (.int a1), some (.int a2), some (.int (0 : Int32))]) dX3_choose_52 rfl (Nat.le_of_ble_eq_true rfl) <|
 x_aload_n dX3_choose_53 rfl <|
 x_getf (v := .ref 34) fl_X3_15 rfl rfl rfl dX3_choose_54 <|
 x_iload_n dX3_choose_57 rfl <|
 x_dup2 dX3_choose_58 rfl rfl <|
 x_iaload (v := ((gm σ 34) a1.toNatClampNeg)) rfl (h.1 c1).1 rfl dX3_choose_59 <|
 x_sipush dX3_choose_60 sp_256 <|
 x_ior dX3_choose_63 <|
 x_iastore rfl (h.1 c1).1 dX3_choose_64 <|
 x_iload_n dX3_choose_65 rfl <|
 x_zreturn rfl (Or.inl rfl) dX3_choose_66 ⟨_, rfl, ((h.1 c1).2.1 c2)⟩) (fun c2 => x_iconst dX3_choose_47 ic_1 <|
 x_goto (tgt := 52) dX3_choose_48 (by decide) <|
 x_istore_n (L2 := [some (.ref 32), some (.int a1), some (.int a2), some (.int (1 : Int32))]) dX3_choose_52 rfl (Nat.le_of_ble_eq_true rfl) <|
 x_aload_n dX3_choose_53 rfl <|
 x_getf (v := .ref 34) fl_X3_15 rfl rfl rfl dX3_choose_54 <|
 x_iload_n dX3_choose_57 rfl <|
 x_dup2 dX3_choose_58 rfl rfl <|
 x_iaload (v := ((gm σ 34) a1.toNatClampNeg)) rfl (h.1 c1).1 rfl dX3_choose_59 <|
 x_sipush dX3_choose_60 sp_256 <|
 x_ior dX3_choose_63 <|
 x_iastore rfl (h.1 c1).1 dX3_choose_64 <|
 x_iload_n dX3_choose_65 rfl <|
 x_zreturn rfl (Or.inr rfl) dX3_choose_66 ⟨_, rfl, ((h.1 c1).2.2 c2)⟩)) (fun c1 => x_aload_n dX3_choose_4 rfl <|
 x_iload_n dX3_choose_5 rfl <|
 x_callV (b := 32) (As := [.int a1]) ok_X3_think ml_X3_70 (okM (by decide)) dX3_choose_6 rfl rfl (Nat.le_of_ble_eq_true rfl) rfl rfl rfl (h.2 c1) <|
 (kV (fun τ3 h4 => x_aload_n dX3_choose_9 rfl <|
 x_getf (v := .ref 35) fl_X3_18 rfl rfl rfl dX3_choose_10 <|
 x_iload_n dX3_choose_13 rfl <|
 x_iaload (v := ((gm τ3 35) a1.toNatClampNeg)) rfl h4.1 rfl dX3_choose_14 <|
 x_if_eq (tgt := 20) dX3_choose_15 (by decide) (fun c5 => x_aload_n dX3_choose_20 rfl <|
 x_getf (v := .ref 35) fl_X3_18 rfl rfl rfl dX3_choose_21 <|
 x_iload_n dX3_choose_24 rfl <|
 x_aload_n dX3_choose_25 rfl <|
 x_getf (v := .ref 34) fl_X3_15 rfl rfl rfl dX3_choose_26 <|
 x_iload_n dX3_choose_29 rfl <|
 x_iaload (v := ((gm τ3 34) a1.toNatClampNeg)) rfl h4.1 rfl dX3_choose_30 <|
 x_iastore rfl h4.1 dX3_choose_31 <|
 x_iconst dX3_choose_32 ic_1 <|
 x_zreturn rfl (Or.inr rfl) dX3_choose_33 ⟨_, rfl, (h4.2.1 c5)⟩) (fun c5 => x_iconst dX3_choose_18 ic_0 <|
 x_zreturn rfl (Or.inl rfl) dX3_choose_19 ⟨_, rfl, (h4.2.2 c5)⟩))))
