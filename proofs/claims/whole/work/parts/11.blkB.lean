def K_X5_type_36 (E : EV) (Q : Sg → Int32 → Prop) (σ : Sg) (v1 : Int64) (v3 : Int32) (v4 : Int32) : Prop := J E mi_X5_type (tgM E mi_X5_type (qI Q)) 36 [some (.ref 0), some (.long v1), none, some (.int v3), some (.int v4)] [] σ
set_option maxRecDepth 100000 in
set_option maxHeartbeats 4000000 in
theorem B_X5_type_36 {E : EV} {Q : Sg → Int32 → Prop} {σ : Sg} {v1 : Int64} {v3 : Int32} {v4 : Int32} (h : ((v4 < 0) → Q σ (gi σ 101)) ∧ ((¬ v4 < 0) → MetV E mi_X4_add [.ref 1, .int (((v1 >>> (((8 : Int32) * v4).toInt64 &&& 63)).toInt32) &&& (255 : Int32))] σ (fun τ2 => K_X5_type_36 E Q τ2 v1 v3 (v4 + (-1))))) : K_X5_type_36 E Q σ v1 v3 v4 :=
 x_iload dX5_type_36 rfl <|
 x_if_lt (tgt := 66) dX5_type_38 (by decide) (fun c1 => x_aload_n dX5_type_66 rfl <|
 x_getf (v := .ref 1) fl_X5_12 rfl rfl rfl dX5_type_67 <|
 x_getf (v := .int (gi σ 101)) fl_X5_66 rfl rfl rfl dX5_type_70 <|
 x_ireturn rfl dX5_type_73 ⟨_, rfl, (h.1 c1)⟩) (fun c1 => x_aload_n dX5_type_41 rfl <|
 x_getf (v := .ref 1) fl_X5_12 rfl rfl rfl dX5_type_42 <|
 x_lload_n dX5_type_45 rfl <|
 x_bipush dX5_type_46 bp_8 <|
 x_iload dX5_type_48 rfl <|
 x_imul dX5_type_50 <|
 x_lshr dX5_type_51 <|
 x_l2i dX5_type_52 <|
 x_sipush dX5_type_53 sp_255 <|
 x_iand dX5_type_56 <|
 x_callV (b := 1) (As := [.int (((v1 >>> (((8 : Int32) * v4).toInt64 &&& 63)).toInt32) &&& (255 : Int32))]) ok_X4_add ml_X5_70 (okM (by decide)) dX5_type_57 rfl rfl (Nat.le_of_ble_eq_true rfl) rfl rfl rfl (h.2 c1) <|
 (kV (fun τ2 h3 => x_iinc (v := (v4 + (-1))) (L2 := [some (.ref 0), some (.long v1), none, some (.int v3), some (.int (v4 + (-1)))]) dX5_type_60 rfl (by rw [show Int32.ofInt (-1) = -1 by decide]) rfl (Nat.le_of_ble_eq_true rfl) <|
 x_goto (tgt := 36) dX5_type_63 (by decide) <|
 h3)))
set_option maxRecDepth 100000 in
set_option maxHeartbeats 4000000 in
theorem M_X5_type {E : EV} {Q : Sg → Int32 → Prop} {σ : Sg} {a1 : Int64} {a2 : Int32} (h : ((a2 < (1 : Int32)) → Q σ (-1 : Int32)) ∧ ((¬ a2 < (1 : Int32)) → ((a2 ≤ (8 : Int32)) → ((((gi σ 101) + a2) ≤ (400 : Int32)) → K_X5_type_36 E Q σ a1 a2 (a2 - (1 : Int32))) ∧ ((¬ ((gi σ 101) + a2) ≤ (400 : Int32)) → Q σ (-3 : Int32))) ∧ ((¬ a2 ≤ (8 : Int32)) → Q σ (-1 : Int32)))) : MetI E mi_X5_type [.ref 0, .long a1, .int a2] σ Q :=
 met_of (L := [some (.ref 0), some (.long a1), none, some (.int a2), none]) pn_X5 rfl (Nat.le_of_ble_eq_true rfl) <|
 x_iload_n dX5_type_0 rfl <|
 x_iconst dX5_type_1 ic_1 <|
 x_icmp_lt (tgt := 11) dX5_type_2 (by decide) (fun c1 => x_iconst dX5_type_11 ic_m1 <|
 x_ireturn rfl dX5_type_12 ⟨_, rfl, (h.1 c1)⟩) (fun c1 => x_iload_n dX5_type_5 rfl <|
 x_bipush dX5_type_6 bp_8 <|
 x_icmp_le (tgt := 13) dX5_type_8 (by decide) (fun c2 => x_aload_n dX5_type_13 rfl <|
 x_getf (v := .ref 1) fl_X5_12 rfl rfl rfl dX5_type_14 <|
 x_getf (v := .int (gi σ 101)) fl_X5_66 rfl rfl rfl dX5_type_17 <|
 x_iload_n dX5_type_20 rfl <|
 x_iadd dX5_type_21 <|
 x_sipush dX5_type_22 sp_400 <|
 x_icmp_le (tgt := 31) dX5_type_25 (by decide) (fun c3 => x_iload_n dX5_type_31 rfl <|
 x_iconst dX5_type_32 ic_1 <|
 x_isub dX5_type_33 <|
 x_istore (L2 := [some (.ref 0), some (.long a1), none, some (.int a2), some (.int (a2 - (1 : Int32)))]) dX5_type_34 rfl (Nat.le_of_ble_eq_true rfl) <|
 (((h.2 c1).1 c2).1 c3)) (fun c3 => x_bipush dX5_type_28 bp_m3 <|
 x_ireturn rfl dX5_type_30 ⟨_, rfl, (((h.2 c1).1 c2).2 c3)⟩)) (fun c2 => x_iconst dX5_type_11 ic_m1 <|
 x_ireturn rfl dX5_type_12 ⟨_, rfl, ((h.2 c1).2 c2)⟩))
set_option maxRecDepth 100000 in
set_option maxHeartbeats 4000000 in
theorem M_X5_clear {E : EV} {Q : Sg → Int32 → Prop} {σ : Sg} (h : Q (si σ 101 (0 : Int32)) (gi σ 101)) : MetI E mi_X5_clear [.ref 0] σ Q :=
 met_of (L := [some (.ref 0), none]) pn_X5 rfl (Nat.le_of_ble_eq_true rfl) <|
 x_aload_n dX5_clear_0 rfl <|
 x_getf (v := .ref 1) fl_X5_12 rfl rfl rfl dX5_clear_1 <|
 x_getf (v := .int (gi σ 101)) fl_X5_66 rfl rfl rfl dX5_clear_4 <|
 x_istore_n (L2 := [some (.ref 0), some (.int (gi σ 101))]) dX5_clear_7 rfl (Nat.le_of_ble_eq_true rfl) <|
 x_aload_n dX5_clear_8 rfl <|
 x_getf (v := .ref 1) fl_X5_12 rfl rfl rfl dX5_clear_9 <|
 x_iconst dX5_clear_12 ic_0 <|
 x_puti fp_X5_66 rfl rfl dX5_clear_13 <|
 x_iload_n dX5_clear_16 rfl <|
 x_ireturn rfl dX5_clear_17 ⟨_, rfl, h⟩
set_option maxRecDepth 100000 in
set_option maxHeartbeats 4000000 in
theorem M_X5_tell {E : EV} {Q : Sg → Int32 → Prop} {σ : Sg} (h : MetI E mi_X2_readText [.ref 11] σ (fun τ1 r2 => ((0 ≤ r2) → MetV E mi_X1_takeFrom [.ref 3, .ref 12] τ1 (fun τ5 => MetV E mi_X0_takeFrom [.ref 5, .ref 14] τ5 (fun τ7 => Q (si (si (si τ7 101 (0 : Int32)) 6 (0 : Int32)) 7 (0 : Int32)) r2))) ∧ ((¬ 0 ≤ r2) → Q τ1 ((-10 : Int32) - (gi τ1 1106))))) : MetI E mi_X5_tell [.ref 0] σ Q :=
 met_of (L := [some (.ref 0), none]) pn_X5 rfl (Nat.le_of_ble_eq_true rfl) <|
 x_aload_n dX5_tell_0 rfl <|
 x_getf (v := .ref 11) fl_X5_35 rfl rfl rfl dX5_tell_1 <|
 x_callV (b := 11) (As := []) ok_X2_readText ml_X5_74 (okM (by decide)) dX5_tell_4 rfl rfl (Nat.le_of_ble_eq_true rfl) rfl rfl rfl h <|
 (kI (fun τ1 r2 h3 => x_istore_n (L2 := [some (.ref 0), some (.int r2)]) dX5_tell_7 rfl (Nat.le_of_ble_eq_true rfl) <|
 x_iload_n dX5_tell_8 rfl <|
 x_if_ge (tgt := 23) dX5_tell_9 (by decide) (fun c4 => x_aload_n dX5_tell_23 rfl <|
 x_getf (v := .ref 3) fl_X5_19 rfl rfl rfl dX5_tell_24 <|
 x_aload_n dX5_tell_27 rfl <|
 x_getf (v := .ref 11) fl_X5_35 rfl rfl rfl dX5_tell_28 <|
 x_getf (v := .ref 12) fl_X5_81 rfl rfl rfl dX5_tell_31 <|
 x_callV (b := 3) (As := [.ref 12]) ok_X1_takeFrom ml_X5_82 (okM (by decide)) dX5_tell_34 rfl rfl (Nat.le_of_ble_eq_true rfl) rfl rfl rfl (h3.1 c4) <|
 (kV (fun τ5 h6 => x_aload_n dX5_tell_37 rfl <|
 x_getf (v := .ref 5) fl_X5_26 rfl rfl rfl dX5_tell_38 <|
 x_aload_n dX5_tell_41 rfl <|
 x_getf (v := .ref 11) fl_X5_35 rfl rfl rfl dX5_tell_42 <|
 x_getf (v := .ref 14) fl_X5_86 rfl rfl rfl dX5_tell_45 <|
 x_callV (b := 5) (As := [.ref 14]) ok_X0_takeFrom ml_X5_87 (okM (by decide)) dX5_tell_48 rfl rfl (Nat.le_of_ble_eq_true rfl) rfl rfl rfl h6 <|
 (kV (fun τ7 h8 => x_aload_n dX5_tell_51 rfl <|
 x_getf (v := .ref 1) fl_X5_12 rfl rfl rfl dX5_tell_52 <|
 x_iconst dX5_tell_55 ic_0 <|
 x_puti fp_X5_66 rfl rfl dX5_tell_56 <|
 x_aload_n dX5_tell_59 rfl <|
 x_iconst dX5_tell_60 ic_0 <|
 x_putz fp_X5_45 (Or.inl rfl) rfl rfl dX5_tell_61 <|
 x_aload_n dX5_tell_64 rfl <|
 x_iconst dX5_tell_65 ic_0 <|
 x_putz fp_X5_49 (Or.inl rfl) rfl rfl dX5_tell_66 <|
 x_iload_n dX5_tell_69 rfl <|
 x_ireturn rfl dX5_tell_70 ⟨_, rfl, h8⟩))))) (fun c4 => x_bipush dX5_tell_12 bp_m10 <|
 x_aload_n dX5_tell_14 rfl <|
 x_getf (v := .ref 11) fl_X5_35 rfl rfl rfl dX5_tell_15 <|
 x_getf (v := .int (gi τ1 1106)) fl_X5_78 rfl rfl rfl dX5_tell_18 <|
 x_isub dX5_tell_21 <|
 x_ireturn rfl dX5_tell_22 ⟨_, rfl, (h3.2 c4)⟩)))
set_option maxRecDepth 100000 in
set_option maxHeartbeats 4000000 in
theorem M_X5_event {E : EV} {Q : Sg → Int32 → Prop} {σ : Sg} {a1 : Int32} {a2 : Int32} (h : ((a1 < 0) → Q σ (-1 : Int32)) ∧ ((¬ a1 < 0) → ((a1 < (gi σ 505)) → ((a2.toInt < 0 ∨ 3 < a2.toInt) → Q σ (-1 : Int32)) ∧ ((a2.toInt = 0) → vp_in a1 40 ∧ Q σ ((gm σ 6) a1.toNatClampNeg)) ∧ ((a2.toInt = 1) → vp_in a1 40 ∧ Q σ ((gm σ 7) a1.toNatClampNeg)) ∧ ((a2.toInt = 2) → vp_in a1 40 ∧ Q σ ((gm σ 8) a1.toNatClampNeg)) ∧ ((a2.toInt = 3) → vp_in a1 40 ∧ Q σ ((gm σ 9) a1.toNatClampNeg))) ∧ ((¬ a1 < (gi σ 505)) → Q σ (-1 : Int32)))) : MetI E mi_X5_event [.ref 0, .int a1, .int a2] σ Q :=
 met_of (L := [some (.ref 0), some (.int a1), some (.int a2)]) pn_X5 rfl (Nat.le_of_ble_eq_true rfl) <|
 x_iload_n dX5_event_0 rfl <|
 x_if_lt (tgt := 15) dX5_event_1 (by decide) (fun c1 => x_iconst dX5_event_15 ic_m1 <|
 x_ireturn rfl dX5_event_16 ⟨_, rfl, (h.1 c1)⟩) (fun c1 => x_iload_n dX5_event_4 rfl <|
 x_aload_n dX5_event_5 rfl <|
 x_getf (v := .ref 5) fl_X5_26 rfl rfl rfl dX5_event_6 <|
 x_getf (v := .int (gi σ 505)) fl_X5_90 rfl rfl rfl dX5_event_9 <|
 x_icmp_lt (tgt := 17) dX5_event_12 (by decide) (fun c2 => x_iload_n dX5_event_17 rfl <|
 x_tab dX5_event_18 rfl ⟨by decide, by decide⟩ (fun c3 tgt ht => by
  have e : tgt = 88 := by omega
  subst e
  exact x_iconst dX5_event_88 ic_m1 <|
 x_ireturn rfl dX5_event_89 ⟨_, rfl, (((h.2 c1).1 c2).1 c3)⟩) (fun i off tgt ho hi ht => by
  match i, ho, hi with
  | 0, ho, hi =>
    have e0 : (30 : Int) = off := Option.some.inj ho
    have e : tgt = 48 := by omega
    subst e
    have c4 : a2.toInt = 0 := by omega
    exact x_aload_n dX5_event_48 rfl <|
 x_getf (v := .ref 5) fl_X5_26 rfl rfl rfl dX5_event_49 <|
 x_getf (v := .ref 6) fl_X5_91 rfl rfl rfl dX5_event_52 <|
 x_iload_n dX5_event_55 rfl <|
 x_iaload (v := ((gm σ 6) a1.toNatClampNeg)) rfl (((h.2 c1).1 c2).2.1 c4).1 rfl dX5_event_56 <|
 x_ireturn rfl dX5_event_57 ⟨_, rfl, (((h.2 c1).1 c2).2.1 c4).2⟩
  | 1, ho, hi =>
    have e0 : (40 : Int) = off := Option.some.inj ho
    have e : tgt = 58 := by omega
    subst e
    have c5 : a2.toInt = 1 := by omega
    exact x_aload_n dX5_event_58 rfl <|
 x_getf (v := .ref 5) fl_X5_26 rfl rfl rfl dX5_event_59 <|
 x_getf (v := .ref 7) fl_X5_95 rfl rfl rfl dX5_event_62 <|
 x_iload_n dX5_event_65 rfl <|
 x_iaload (v := ((gm σ 7) a1.toNatClampNeg)) rfl (((h.2 c1).1 c2).2.2.1 c5).1 rfl dX5_event_66 <|
 x_ireturn rfl dX5_event_67 ⟨_, rfl, (((h.2 c1).1 c2).2.2.1 c5).2⟩
  | 2, ho, hi =>
    have e0 : (50 : Int) = off := Option.some.inj ho
    have e : tgt = 68 := by omega
    subst e
    have c6 : a2.toInt = 2 := by omega
    exact x_aload_n dX5_event_68 rfl <|
 x_getf (v := .ref 5) fl_X5_26 rfl rfl rfl dX5_event_69 <|
 x_getf (v := .ref 8) fl_X5_98 rfl rfl rfl dX5_event_72 <|
 x_iload_n dX5_event_75 rfl <|
 x_iaload (v := ((gm σ 8) a1.toNatClampNeg)) rfl (((h.2 c1).1 c2).2.2.2.1 c6).1 rfl dX5_event_76 <|
 x_ireturn rfl dX5_event_77 ⟨_, rfl, (((h.2 c1).1 c2).2.2.2.1 c6).2⟩
  | 3, ho, hi =>
    have e0 : (60 : Int) = off := Option.some.inj ho
    have e : tgt = 78 := by omega
    subst e
    have c7 : a2.toInt = 3 := by omega
    exact x_aload_n dX5_event_78 rfl <|
 x_getf (v := .ref 5) fl_X5_26 rfl rfl rfl dX5_event_79 <|
 x_getf (v := .ref 9) fl_X5_101 rfl rfl rfl dX5_event_82 <|
 x_iload_n dX5_event_85 rfl <|
 x_iaload (v := ((gm σ 9) a1.toNatClampNeg)) rfl (((h.2 c1).1 c2).2.2.2.2 c7).1 rfl dX5_event_86 <|
 x_ireturn rfl dX5_event_87 ⟨_, rfl, (((h.2 c1).1 c2).2.2.2.2 c7).2⟩
  | n + 4, ho, hi => exact absurd ho (by simp))) (fun c2 => x_iconst dX5_event_15 ic_m1 <|
 x_ireturn rfl dX5_event_16 ⟨_, rfl, ((h.2 c1).2 c2)⟩))
set_option maxRecDepth 100000 in
set_option maxHeartbeats 4000000 in
theorem M_X5_comes {E : EV} {Q : Sg → Int32 → Prop} {σ : Sg} {a1 : Int32} {a2 : Int32} {a3 : Int32} (h : ((a1 < 0) → Q σ (-1 : Int32)) ∧ ((¬ a1 < 0) → (((4 : Int32) < a1) → Q σ (-1 : Int32)) ∧ ((¬ (4 : Int32) < a1) → MetI E mi_X1_knows [.ref 3, .int a2] σ (fun τ3 r4 => ((r4 = 0) → Q τ3 (-1 : Int32)) ∧ ((¬ r4 = 0) → MetI E mi_X1_allows [.ref 3, .int a1, .int a2, .int a3] τ3 (fun τ7 r8 => ((¬ r8 = 0) → MetI E mi_X0_hasRoomFor [.ref 5, .int a1] τ7 (fun τ11 r12 => ((¬ r12 = 0) → MetV E mi_X0_add [.ref 5, .int a1, .int a2, .int a3] τ11 (fun τ15 => Q τ15 (gi τ15 505))) ∧ ((r12 = 0) → Q τ11 (-3 : Int32)))) ∧ ((r8 = 0) → Q τ7 (-1 : Int32)))))))) : MetI E mi_X5_comes [.ref 0, .int a1, .int a2, .int a3] σ Q :=
 met_of (L := [some (.ref 0), some (.int a1), some (.int a2), some (.int a3)]) pn_X5 rfl (Nat.le_of_ble_eq_true rfl) <|
 x_iload_n dX5_comes_0 rfl <|
 x_if_lt (tgt := 33) dX5_comes_1 (by decide) (fun c1 => x_iconst dX5_comes_33 ic_m1 <|
 x_ireturn rfl dX5_comes_34 ⟨_, rfl, (h.1 c1)⟩) (fun c1 => x_iload_n dX5_comes_4 rfl <|
 x_iconst dX5_comes_5 ic_4 <|
 x_icmp_gt (tgt := 33) dX5_comes_6 (by decide) (fun c2 => x_iconst dX5_comes_33 ic_m1 <|
 x_ireturn rfl dX5_comes_34 ⟨_, rfl, ((h.2 c1).1 c2)⟩) (fun c2 => x_aload_n dX5_comes_9 rfl <|
 x_getf (v := .ref 3) fl_X5_19 rfl rfl rfl dX5_comes_10 <|
 x_iload_n dX5_comes_13 rfl <|
 x_callV (b := 3) (As := [.int a2]) ok_X1_knows ml_X5_104 (okM (by decide)) dX5_comes_14 rfl rfl (Nat.le_of_ble_eq_true rfl) rfl rfl rfl ((h.2 c1).2 c2) <|
 (kI (fun τ3 r4 h5 => x_if_eq (tgt := 33) dX5_comes_17 (by decide) (fun c6 => x_iconst dX5_comes_33 ic_m1 <|
 x_ireturn rfl dX5_comes_34 ⟨_, rfl, (h5.1 c6)⟩) (fun c6 => x_aload_n dX5_comes_20 rfl <|
 x_getf (v := .ref 3) fl_X5_19 rfl rfl rfl dX5_comes_21 <|
 x_iload_n dX5_comes_24 rfl <|
 x_iload_n dX5_comes_25 rfl <|
 x_iload_n dX5_comes_26 rfl <|
 x_callV (b := 3) (As := [.int a1, .int a2, .int a3]) ok_X1_allows ml_X5_108 (okM (by decide)) dX5_comes_27 rfl rfl (Nat.le_of_ble_eq_true rfl) rfl rfl rfl (h5.2 c6) <|
 (kI (fun τ7 r8 h9 => x_if_ne (tgt := 35) dX5_comes_30 (by decide) (fun c10 => x_aload_n dX5_comes_35 rfl <|
 x_getf (v := .ref 5) fl_X5_26 rfl rfl rfl dX5_comes_36 <|
 x_iload_n dX5_comes_39 rfl <|
 x_callV (b := 5) (As := [.int a1]) ok_X0_hasRoomFor ml_X5_112 (okM (by decide)) dX5_comes_40 rfl rfl (Nat.le_of_ble_eq_true rfl) rfl rfl rfl (h9.1 c10) <|
 (kI (fun τ11 r12 h13 => x_if_ne (tgt := 49) dX5_comes_43 (by decide) (fun c14 => x_aload_n dX5_comes_49 rfl <|
 x_getf (v := .ref 5) fl_X5_26 rfl rfl rfl dX5_comes_50 <|
 x_iload_n dX5_comes_53 rfl <|
 x_iload_n dX5_comes_54 rfl <|
 x_iload_n dX5_comes_55 rfl <|
 x_callV (b := 5) (As := [.int a1, .int a2, .int a3]) ok_X0_add ml_X5_115 (okM (by decide)) dX5_comes_56 rfl rfl (Nat.le_of_ble_eq_true rfl) rfl rfl rfl (h13.1 c14) <|
 (kV (fun τ15 h16 => x_aload_n dX5_comes_59 rfl <|
 x_getf (v := .ref 5) fl_X5_26 rfl rfl rfl dX5_comes_60 <|
 x_getf (v := .int (gi τ15 505)) fl_X5_90 rfl rfl rfl dX5_comes_63 <|
 x_ireturn rfl dX5_comes_66 ⟨_, rfl, h16⟩))) (fun c14 => x_bipush dX5_comes_46 bp_m3 <|
 x_ireturn rfl dX5_comes_48 ⟨_, rfl, (h13.2 c14)⟩)))) (fun c10 => x_iconst dX5_comes_33 ic_m1 <|
 x_ireturn rfl dX5_comes_34 ⟨_, rfl, (h9.2 c10)⟩))))))))
set_option maxRecDepth 100000 in
set_option maxHeartbeats 4000000 in
theorem M_X5_days {E : EV} {Q : Sg → Int32 → Prop} {σ : Sg} {a1 : Int32} (h : ((a1 < (1 : Int32)) → Q σ (-1 : Int32)) ∧ ((¬ a1 < (1 : Int32)) → ((a1 ≤ (99 : Int32)) → ((((gi σ 507) + a1) ≤ (99 : Int32)) → Q (si σ 507 ((gi σ 507) + a1)) ((gi σ 507) + a1)) ∧ ((¬ ((gi σ 507) + a1) ≤ (99 : Int32)) → Q σ (-2 : Int32))) ∧ ((¬ a1 ≤ (99 : Int32)) → Q σ (-1 : Int32)))) : MetI E mi_X5_days [.ref 0, .int a1] σ Q :=
 met_of (L := [some (.ref 0), some (.int a1)]) pn_X5 rfl (Nat.le_of_ble_eq_true rfl) <|
 x_iload_n dX5_days_0 rfl <|
 x_iconst dX5_days_1 ic_1 <|
 x_icmp_lt (tgt := 11) dX5_days_2 (by decide) (fun c1 => x_iconst dX5_days_11 ic_m1 <|
 x_ireturn rfl dX5_days_12 ⟨_, rfl, (h.1 c1)⟩) (fun c1 => x_iload_n dX5_days_5 rfl <|
 x_bipush dX5_days_6 bp_99 <|
 x_icmp_le (tgt := 13) dX5_days_8 (by decide) (fun c2 => x_aload_n dX5_days_13 rfl <|
 x_getf (v := .ref 5) fl_X5_26 rfl rfl rfl dX5_days_14 <|
 x_getf (v := .int (gi σ 507)) fl_X5_118 rfl rfl rfl dX5_days_17 <|
 x_iload_n dX5_days_20 rfl <|
 x_iadd dX5_days_21 <|
 x_bipush dX5_days_22 bp_99 <|
 x_icmp_le (tgt := 30) dX5_days_24 (by decide) (fun c3 => x_aload_n dX5_days_30 rfl <|
 x_getf (v := .ref 5) fl_X5_26 rfl rfl rfl dX5_days_31 <|
 x_dup dX5_days_34 rfl <|
 x_getf (v := .int (gi σ 507)) fl_X5_118 rfl rfl rfl dX5_days_35 <|
 x_iload_n dX5_days_38 rfl <|
 x_iadd dX5_days_39 <|
 x_puti fp_X5_118 rfl rfl dX5_days_40 <|
 x_aload_n dX5_days_43 rfl <|
 x_getf (v := .ref 5) fl_X5_26 rfl rfl rfl dX5_days_44 <|
 x_getf (v := .int ((gi σ 507) + a1)) fl_X5_118 rfl rfl rfl dX5_days_47 <|
 x_ireturn rfl dX5_days_50 ⟨_, rfl, (((h.2 c1).1 c2).1 c3)⟩) (fun c3 => x_bipush dX5_days_27 bp_m2 <|
 x_ireturn rfl dX5_days_29 ⟨_, rfl, (((h.2 c1).1 c2).2 c3)⟩)) (fun c2 => x_iconst dX5_days_11 ic_m1 <|
 x_ireturn rfl dX5_days_12 ⟨_, rfl, ((h.2 c1).2 c2)⟩))
set_option maxRecDepth 100000 in
set_option maxHeartbeats 4000000 in
theorem M_X5_undo {E : EV} {Q : Sg → Int32 → Prop} {σ : Sg} (h : ((¬ (gi σ 505) = 0) → MetV E mi_X0_dropLast [.ref 5] σ (fun τ2 => Q τ2 (gi τ2 505))) ∧ (((gi σ 505) = 0) → Q σ (-2 : Int32))) : MetI E mi_X5_undo [.ref 0] σ Q :=
 met_of (L := [some (.ref 0)]) pn_X5 rfl (Nat.le_of_ble_eq_true rfl) <|
 x_aload_n dX5_undo_0 rfl <|
 x_getf (v := .ref 5) fl_X5_26 rfl rfl rfl dX5_undo_1 <|
 x_getf (v := .int (gi σ 505)) fl_X5_90 rfl rfl rfl dX5_undo_4 <|
 x_if_ne (tgt := 13) dX5_undo_7 (by decide) (fun c1 => x_aload_n dX5_undo_13 rfl <|
 x_getf (v := .ref 5) fl_X5_26 rfl rfl rfl dX5_undo_14 <|
 x_callV (b := 5) (As := []) ok_X0_dropLast ml_X5_121 (okM (by decide)) dX5_undo_17 rfl rfl (Nat.le_of_ble_eq_true rfl) rfl rfl rfl (h.1 c1) <|
 (kV (fun τ2 h3 => x_aload_n dX5_undo_20 rfl <|
 x_getf (v := .ref 5) fl_X5_26 rfl rfl rfl dX5_undo_21 <|
 x_getf (v := .int (gi τ2 505)) fl_X5_90 rfl rfl rfl dX5_undo_24 <|
 x_ireturn rfl dX5_undo_27 ⟨_, rfl, h3⟩))) (fun c1 => x_bipush dX5_undo_10 bp_m2 <|
 x_ireturn rfl dX5_undo_12 ⟨_, rfl, (h.2 c1)⟩)
set_option maxRecDepth 100000 in
set_option maxHeartbeats 4000000 in
theorem M_X5_isThing {E : EV} {Q : Sg → Int32 → Prop} {σ : Sg} {a1 : Int32} (h : ((a1 < 0) → Q σ (0 : Int32)) ∧ ((¬ a1 < 0) → (((4 : Int32) ≤ a1) → Q σ (0 : Int32)) ∧ ((¬ (4 : Int32) ≤ a1) → Q σ (1 : Int32)))) : MetI E mi_X5_isThing [.int a1] σ Q :=
 met_of (L := [some (.int a1)]) pn_X5 rfl (Nat.le_of_ble_eq_true rfl) <|
 x_iload_n dX5_isThing_0 rfl <|
 x_if_lt (tgt := 13) dX5_isThing_1 (by decide) (fun c1 => x_iconst dX5_isThing_13 ic_0 <|
 x_zreturn rfl (Or.inl rfl) dX5_isThing_14 ⟨_, rfl, (h.1 c1)⟩) (fun c1 => x_iload_n dX5_isThing_4 rfl <|
 x_iconst dX5_isThing_5 ic_4 <|
 x_icmp_ge (tgt := 13) dX5_isThing_6 (by decide) (fun c2 => x_iconst dX5_isThing_13 ic_0 <|
 x_zreturn rfl (Or.inl rfl) dX5_isThing_14 ⟨_, rfl, ((h.2 c1).1 c2)⟩) (fun c2 => x_iconst dX5_isThing_9 ic_1 <|
 x_goto (tgt := 14) dX5_isThing_10 (by decide) <|
 x_zreturn rfl (Or.inr rfl) dX5_isThing_14 ⟨_, rfl, ((h.2 c1).2 c2)⟩))
set_option maxRecDepth 100000 in
set_option maxHeartbeats 4000000 in
theorem M_X5_tellStory {E : EV} {Q : Sg → Prop} {σ : Sg} {a1 : Int32} {a2 : Int32} (h : MetV E mi_X3_begin [.ref 36, .ref 3, .int a1] σ (fun τ1 => MetV E mi_X3_play [.ref 36, .ref 5, .int (0 : Int32), .int (gi τ1 505), .int a2] τ1 (fun τ3 => Q τ3))) : MetV E mi_X5_tellStory [.ref 0, .int a1, .int a2] σ Q :=
 met_of (L := [some (.ref 0), some (.int a1), some (.int a2)]) pn_X5 rfl (Nat.le_of_ble_eq_true rfl) <|
 x_aload_n dX5_tellStory_0 rfl <|
 x_getf (v := .ref 36) fl_X5_59 rfl rfl rfl dX5_tellStory_1 <|
 x_aload_n dX5_tellStory_4 rfl <|
 x_getf (v := .ref 3) fl_X5_19 rfl rfl rfl dX5_tellStory_5 <|
 x_iload_n dX5_tellStory_8 rfl <|
 x_callV (b := 36) (As := [.ref 3, .int a1]) ok_X3_begin ml_X5_226 (okM (by decide)) dX5_tellStory_9 rfl rfl (Nat.le_of_ble_eq_true rfl) rfl rfl rfl h <|
 (kV (fun τ1 h2 => x_aload_n dX5_tellStory_12 rfl <|
 x_getf (v := .ref 36) fl_X5_59 rfl rfl rfl dX5_tellStory_13 <|
 x_aload_n dX5_tellStory_16 rfl <|
 x_getf (v := .ref 5) fl_X5_26 rfl rfl rfl dX5_tellStory_17 <|
 x_iconst dX5_tellStory_20 ic_0 <|
 x_aload_n dX5_tellStory_21 rfl <|
 x_getf (v := .ref 5) fl_X5_26 rfl rfl rfl dX5_tellStory_22 <|
 x_getf (v := .int (gi τ1 505)) fl_X5_90 rfl rfl rfl dX5_tellStory_25 <|
 x_iload_n dX5_tellStory_28 rfl <|
 x_callV (b := 36) (As := [.ref 5, .int (0 : Int32), .int (gi τ1 505), .int a2]) ok_X3_play ml_X5_230 (okM (by decide)) dX5_tellStory_29 rfl rfl (Nat.le_of_ble_eq_true rfl) rfl rfl rfl h2 <|
 (kV (fun τ3 h4 => x_return rfl dX5_tellStory_32 ⟨rfl, h4⟩))))
set_option maxRecDepth 100000 in
set_option maxHeartbeats 4000000 in
theorem M_X5_origins {E : EV} {Q : Sg → Int32 → Prop} {σ : Sg} {a1 : Int32} {a2 : Int32} {a3 : Int32} (h : MetI E mi_X1_knows [.ref 3, .int a1] σ (fun τ1 r2 => ((r2 = 0) → Q τ1 (-1 : Int32)) ∧ ((¬ r2 = 0) → MetI E mi_X5_isThing [.int a2] τ1 (fun τ5 r6 => ((¬ r6 = 0) → MetV E mi_X5_tellStory [.ref 0, .int a2, .int a3] τ5 (fun τ9 => vp_in a1 8 ∧ Q τ9 ((gm τ9 38) a1.toNatClampNeg))) ∧ ((r6 = 0) → Q τ5 (-1 : Int32)))))) : MetI E mi_X5_origins [.ref 0, .int a1, .int a2, .int a3] σ Q :=
 met_of (L := [some (.ref 0), some (.int a1), some (.int a2), some (.int a3)]) pn_X5 rfl (Nat.le_of_ble_eq_true rfl) <|
 x_aload_n dX5_origins_0 rfl <|
 x_getf (v := .ref 3) fl_X5_19 rfl rfl rfl dX5_origins_1 <|
 x_iload_n dX5_origins_4 rfl <|
 x_callV (b := 3) (As := [.int a1]) ok_X1_knows ml_X5_104 (okM (by decide)) dX5_origins_5 rfl rfl (Nat.le_of_ble_eq_true rfl) rfl rfl rfl h <|
 (kI (fun τ1 r2 h3 => x_if_eq (tgt := 18) dX5_origins_8 (by decide) (fun c4 => x_iconst dX5_origins_18 ic_m1 <|
 x_ireturn rfl dX5_origins_19 ⟨_, rfl, (h3.1 c4)⟩) (fun c4 => x_iload_n dX5_origins_11 rfl <|
 x_callS (As := [.int a2]) ok_X5_isThing ml_X5_124 (okM (by decide)) dX5_origins_12 rfl rfl (Nat.le_of_ble_eq_true rfl) (h3.2 c4) <|
 (kI (fun τ5 r6 h7 => x_if_ne (tgt := 20) dX5_origins_15 (by decide) (fun c8 => x_aload_n dX5_origins_20 rfl <|
 x_iload_n dX5_origins_21 rfl <|
 x_iload_n dX5_origins_22 rfl <|
 x_callV (b := 0) (As := [.int a2, .int a3]) ok_X5_tellStory ml_X5_127 (okM (by decide)) dX5_origins_23 rfl rfl (Nat.le_of_ble_eq_true rfl) rfl rfl rfl (h7.1 c8) <|
 (kV (fun τ9 h10 => x_aload_n dX5_origins_26 rfl <|
 x_getf (v := .ref 36) fl_X5_59 rfl rfl rfl dX5_origins_27 <|
 x_getf (v := .ref 38) fl_X5_131 rfl rfl rfl dX5_origins_30 <|
 x_iload_n dX5_origins_33 rfl <|
 x_iaload (v := ((gm τ9 38) a1.toNatClampNeg)) rfl h10.1 rfl dX5_origins_34 <|
 x_ireturn rfl dX5_origins_35 ⟨_, rfl, h10.2⟩))) (fun c8 => x_iconst dX5_origins_18 ic_m1 <|
 x_ireturn rfl dX5_origins_19 ⟨_, rfl, (h7.2 c8)⟩))))))
set_option maxRecDepth 100000 in
set_option maxHeartbeats 4000000 in
theorem M_X5_voice {E : EV} {Q : Sg → Int32 → Prop} {σ : Sg} {a1 : Int32} {a2 : Int32} {a3 : Int32} (h : MetI E mi_X1_knows [.ref 3, .int a1] σ (fun τ1 r2 => ((r2 = 0) → Q τ1 (-1 : Int32)) ∧ ((¬ r2 = 0) → MetI E mi_X5_isThing [.int a2] τ1 (fun τ5 r6 => ((¬ r6 = 0) → MetV E mi_X5_tellStory [.ref 0, .int a2, .int a3] τ5 (fun τ9 => vp_in a1 8 ∧ ((¬ ((gm τ9 39) a1.toNatClampNeg) = 0) → Q τ9 ((gm τ9 39) a1.toNatClampNeg)) ∧ ((((gm τ9 39) a1.toNatClampNeg) = 0) → Q τ9 (-9 : Int32)))) ∧ ((r6 = 0) → Q τ5 (-1 : Int32)))))) : MetI E mi_X5_voice [.ref 0, .int a1, .int a2, .int a3] σ Q :=
 met_of (L := [some (.ref 0), some (.int a1), some (.int a2), some (.int a3)]) pn_X5 rfl (Nat.le_of_ble_eq_true rfl) <|
 x_aload_n dX5_voice_0 rfl <|
 x_getf (v := .ref 3) fl_X5_19 rfl rfl rfl dX5_voice_1 <|
 x_iload_n dX5_voice_4 rfl <|
 x_callV (b := 3) (As := [.int a1]) ok_X1_knows ml_X5_104 (okM (by decide)) dX5_voice_5 rfl rfl (Nat.le_of_ble_eq_true rfl) rfl rfl rfl h <|
 (kI (fun τ1 r2 h3 => x_if_eq (tgt := 18) dX5_voice_8 (by decide) (fun c4 => x_iconst dX5_voice_18 ic_m1 <|
 x_ireturn rfl dX5_voice_19 ⟨_, rfl, (h3.1 c4)⟩) (fun c4 => x_iload_n dX5_voice_11 rfl <|
 x_callS (As := [.int a2]) ok_X5_isThing ml_X5_124 (okM (by decide)) dX5_voice_12 rfl rfl (Nat.le_of_ble_eq_true rfl) (h3.2 c4) <|
 (kI (fun τ5 r6 h7 => x_if_ne (tgt := 20) dX5_voice_15 (by decide) (fun c8 => x_aload_n dX5_voice_20 rfl <|
 x_iload_n dX5_voice_21 rfl <|
 x_iload_n dX5_voice_22 rfl <|
 x_callV (b := 0) (As := [.int a2, .int a3]) ok_X5_tellStory ml_X5_127 (okM (by decide)) dX5_voice_23 rfl rfl (Nat.le_of_ble_eq_true rfl) rfl rfl rfl (h7.1 c8) <|
 (kV (fun τ9 h10 => x_aload_n dX5_voice_26 rfl <|
 x_getf (v := .ref 36) fl_X5_59 rfl rfl rfl dX5_voice_27 <|
 x_getf (v := .ref 39) fl_X5_134 rfl rfl rfl dX5_voice_30 <|
 x_iload_n dX5_voice_33 rfl <|
 x_iaload (v := ((gm τ9 39) a1.toNatClampNeg)) rfl h10.1 rfl dX5_voice_34 <|
 x_if_ne (tgt := 43) dX5_voice_35 (by decide) (fun c11 => x_aload_n dX5_voice_43 rfl <|
 x_getf (v := .ref 36) fl_X5_59 rfl rfl rfl dX5_voice_44 <|
 x_getf (v := .ref 39) fl_X5_134 rfl rfl rfl dX5_voice_47 <|
 x_iload_n dX5_voice_50 rfl <|
 x_iaload (v := ((gm τ9 39) a1.toNatClampNeg)) rfl h10.1 rfl dX5_voice_51 <|
 x_ireturn rfl dX5_voice_52 ⟨_, rfl, (h10.2.1 c11)⟩) (fun c11 => x_bipush dX5_voice_38 bp_m9 <|
 x_goto (tgt := 52) dX5_voice_40 (by decide) <|
 x_ireturn rfl dX5_voice_52 ⟨_, rfl, (h10.2.2 c11)⟩)))) (fun c8 => x_iconst dX5_voice_18 ic_m1 <|
 x_ireturn rfl dX5_voice_19 ⟨_, rfl, (h7.2 c8)⟩))))))
set_option maxRecDepth 100000 in
set_option maxHeartbeats 4000000 in
theorem M_X5_law {E : EV} {Q : Sg → Int32 → Prop} {σ : Sg} {a1 : Int32} {a2 : Int32} {a3 : Int32} (h : MetI E mi_X5_isThing [.int a1] σ (fun τ1 r2 => ((r2 = 0) → Q τ1 (-1 : Int32)) ∧ ((¬ r2 = 0) → ((a3 < 0) → Q τ1 (-1 : Int32)) ∧ ((¬ a3 < 0) → ((a3 ≤ (1 : Int32)) → MetV E mi_X5_tellStory [.ref 0, .int a1, .int a2] τ1 (fun τ7 => ((¬ (gi τ7 3607) = 0) → ((¬ a3 = 0) → Q τ7 (gi τ7 3607)) ∧ ((a3 = 0) → Q τ7 (gi τ7 3606))) ∧ (((gi τ7 3607) = 0) → Q τ7 (-9 : Int32)))) ∧ ((¬ a3 ≤ (1 : Int32)) → Q τ1 (-1 : Int32)))))) : MetI E mi_X5_law [.ref 0, .int a1, .int a2, .int a3] σ Q :=
 met_of (L := [some (.ref 0), some (.int a1), some (.int a2), some (.int a3)]) pn_X5 rfl (Nat.le_of_ble_eq_true rfl) <|
 x_iload_n dX5_law_0 rfl <|
 x_callS (As := [.int a1]) ok_X5_isThing ml_X5_124 (okM (by decide)) dX5_law_1 rfl rfl (Nat.le_of_ble_eq_true rfl) h <|
 (kI (fun τ1 r2 h3 => x_if_eq (tgt := 16) dX5_law_4 (by decide) (fun c4 => x_iconst dX5_law_16 ic_m1 <|
 x_ireturn rfl dX5_law_17 ⟨_, rfl, (h3.1 c4)⟩) (fun c4 => x_iload_n dX5_law_7 rfl <|
 x_if_lt (tgt := 16) dX5_law_8 (by decide) (fun c5 => x_iconst dX5_law_16 ic_m1 <|
 x_ireturn rfl dX5_law_17 ⟨_, rfl, ((h3.2 c4).1 c5)⟩) (fun c5 => x_iload_n dX5_law_11 rfl <|
 x_iconst dX5_law_12 ic_1 <|
 x_icmp_le (tgt := 18) dX5_law_13 (by decide) (fun c6 => x_aload_n dX5_law_18 rfl <|
 x_iload_n dX5_law_19 rfl <|
 x_iload_n dX5_law_20 rfl <|
 x_callV (b := 0) (As := [.int a1, .int a2]) ok_X5_tellStory ml_X5_127 (okM (by decide)) dX5_law_21 rfl rfl (Nat.le_of_ble_eq_true rfl) rfl rfl rfl (((h3.2 c4).2 c5).1 c6) <|
 (kV (fun τ7 h8 => x_aload_n dX5_law_24 rfl <|
 x_getf (v := .ref 36) fl_X5_59 rfl rfl rfl dX5_law_25 <|
 x_getf (v := .int (gi τ7 3607)) fl_X5_137 rfl rfl rfl dX5_law_28 <|
 x_if_ne (tgt := 37) dX5_law_31 (by decide) (fun c9 => x_iload_n dX5_law_37 rfl <|
 x_if_ne (tgt := 51) dX5_law_38 (by decide) (fun c10 => x_aload_n dX5_law_51 rfl <|
 x_getf (v := .ref 36) fl_X5_59 rfl rfl rfl dX5_law_52 <|
 x_getf (v := .int (gi τ7 3607)) fl_X5_137 rfl rfl rfl dX5_law_55 <|
 x_ireturn rfl dX5_law_58 ⟨_, rfl, ((h8.1 c9).1 c10)⟩) (fun c10 => x_aload_n dX5_law_41 rfl <|
 x_getf (v := .ref 36) fl_X5_59 rfl rfl rfl dX5_law_42 <|
 x_getf (v := .int (gi τ7 3606)) fl_X5_140 rfl rfl rfl dX5_law_45 <|
 x_goto (tgt := 58) dX5_law_48 (by decide) <|
 x_ireturn rfl dX5_law_58 ⟨_, rfl, ((h8.1 c9).2 c10)⟩)) (fun c9 => x_bipush dX5_law_34 bp_m9 <|
 x_ireturn rfl dX5_law_36 ⟨_, rfl, (h8.2 c9)⟩)))) (fun c6 => x_iconst dX5_law_16 ic_m1 <|
 x_ireturn rfl dX5_law_17 ⟨_, rfl, (((h3.2 c4).2 c5).2 c6)⟩)))))
set_option maxRecDepth 100000 in
set_option maxHeartbeats 4000000 in
theorem M_X5_place {E : EV} {Q : Sg → Int32 → Prop} {σ : Sg} {a1 : Int32} (h : MetI E mi_X1_knows [.ref 3, .int a1] σ (fun τ1 r2 => ((¬ r2 = 0) → MetV E mi_X5_tellStory [.ref 0, .int (0 : Int32), .int (0 : Int32)] τ1 (fun τ5 => vp_in a1 8 ∧ Q τ5 ((gm τ5 37) a1.toNatClampNeg))) ∧ ((r2 = 0) → Q τ1 (-1 : Int32)))) : MetI E mi_X5_place [.ref 0, .int a1] σ Q :=
 met_of (L := [some (.ref 0), some (.int a1)]) pn_X5 rfl (Nat.le_of_ble_eq_true rfl) <|
 x_aload_n dX5_place_0 rfl <|
 x_getf (v := .ref 3) fl_X5_19 rfl rfl rfl dX5_place_1 <|
 x_iload_n dX5_place_4 rfl <|
 x_callV (b := 3) (As := [.int a1]) ok_X1_knows ml_X5_104 (okM (by decide)) dX5_place_5 rfl rfl (Nat.le_of_ble_eq_true rfl) rfl rfl rfl h <|
 (kI (fun τ1 r2 h3 => x_if_ne (tgt := 13) dX5_place_8 (by decide) (fun c4 => x_aload_n dX5_place_13 rfl <|
 x_iconst dX5_place_14 ic_0 <|
 x_iconst dX5_place_15 ic_0 <|
 x_callV (b := 0) (As := [.int (0 : Int32), .int (0 : Int32)]) ok_X5_tellStory ml_X5_127 (okM (by decide)) dX5_place_16 rfl rfl (Nat.le_of_ble_eq_true rfl) rfl rfl rfl (h3.1 c4) <|
 (kV (fun τ5 h6 => x_aload_n dX5_place_19 rfl <|
 x_getf (v := .ref 36) fl_X5_59 rfl rfl rfl dX5_place_20 <|
 x_getf (v := .ref 37) fl_X5_143 rfl rfl rfl dX5_place_23 <|
 x_iload_n dX5_place_26 rfl <|
 x_iaload (v := ((gm τ5 37) a1.toNatClampNeg)) rfl h6.1 rfl dX5_place_27 <|
 x_ireturn rfl dX5_place_28 ⟨_, rfl, h6.2⟩))) (fun c4 => x_iconst dX5_place_11 ic_m1 <|
 x_ireturn rfl dX5_place_12 ⟨_, rfl, (h3.2 c4)⟩)))
set_option maxRecDepth 100000 in
set_option maxHeartbeats 4000000 in
theorem M_X5_isLawWith {E : EV} {Q : Sg → Int32 → Prop} {σ : Sg} {a1 : Int32} {a2 : Int32} (h : MetV E mi_X5_tellStory [.ref 0, .int a1, .int a2] σ (fun τ1 => (((gi τ1 3607) = 0) → Q τ1 (0 : Int32)) ∧ ((¬ (gi τ1 3607) = 0) → Q τ1 (1 : Int32)))) : MetI E mi_X5_isLawWith [.ref 0, .int a1, .int a2] σ Q :=
 met_of (L := [some (.ref 0), some (.int a1), some (.int a2)]) pn_X5 rfl (Nat.le_of_ble_eq_true rfl) <|
 x_aload_n dX5_isLawWith_0 rfl <|
 x_iload_n dX5_isLawWith_1 rfl <|
 x_iload_n dX5_isLawWith_2 rfl <|
 x_callV (b := 0) (As := [.int a1, .int a2]) ok_X5_tellStory ml_X5_127 (okM (by decide)) dX5_isLawWith_3 rfl rfl (Nat.le_of_ble_eq_true rfl) rfl rfl rfl h <|
 (kV (fun τ1 h2 => x_aload_n dX5_isLawWith_6 rfl <|
 x_getf (v := .ref 36) fl_X5_59 rfl rfl rfl dX5_isLawWith_7 <|
 x_getf (v := .int (gi τ1 3607)) fl_X5_137 rfl rfl rfl dX5_isLawWith_10 <|
 x_if_eq (tgt := 20) dX5_isLawWith_13 (by decide) (fun c3 => x_iconst dX5_isLawWith_20 ic_0 <|
 x_zreturn rfl (Or.inl rfl) dX5_isLawWith_21 ⟨_, rfl, (h2.1 c3)⟩) (fun c3 => x_iconst dX5_isLawWith_16 ic_1 <|
 x_goto (tgt := 21) dX5_isLawWith_17 (by decide) <|
 x_zreturn rfl (Or.inr rfl) dX5_isLawWith_21 ⟨_, rfl, (h2.2 c3)⟩)))
def K_X5_fewestAgainst_20 (E : EV) (Q : Sg → Int32 → Prop) (σ : Sg) (v1 : Int32) (v2 : Int32) (v3 : Int32) (v4 : Int32) (v5 : Int32) : Prop := J E mi_X5_fewestAgainst (tgM E mi_X5_fewestAgainst (qI Q)) 20 [some (.ref 0), some (.int v1), some (.int v2), some (.int v3), some (.int v4), some (.int v5)] [] σ
set_option maxRecDepth 100000 in
set_option maxHeartbeats 4000000 in
theorem B_X5_fewestAgainst_20 {E : EV} {Q : Sg → Int32 → Prop} {σ : Sg} {v1 : Int32} {v2 : Int32} {v3 : Int32} {v4 : Int32} {v5 : Int32} (h : ((v4 ≤ v5) → Q σ v2) ∧ ((¬ v4 ≤ v5) → MetI E mi_J6_bitCount_0f7a4 [.int v5] σ (fun τ2 r3 => ((v3 ≤ r3) → K_X5_fewestAgainst_20 E Q τ2 v1 v2 v3 v4 (v5 + 1)) ∧ ((¬ v3 ≤ r3) → MetI E mi_X5_isLawWith [.ref 0, .int v1, .int v5] τ2 (fun τ6 r7 => ((¬ r7 = 0) → K_X5_fewestAgainst_20 E Q τ6 v1 v2 v3 v4 (v5 + 1)) ∧ ((r7 = 0) → MetI E mi_J6_bitCount_0f7a4 [.int v5] τ6 (fun τ10 r11 => K_X5_fewestAgainst_20 E Q τ10 v1 v5 r11 v4 (v5 + 1)))))))) : K_X5_fewestAgainst_20 E Q σ v1 v2 v3 v4 v5 :=
 x_iload dX5_fewestAgainst_20 rfl <|
 x_iload dX5_fewestAgainst_22 rfl <|
 x_icmp_ge (tgt := 61) dX5_fewestAgainst_24 (by decide) (fun c1 => x_iload_n dX5_fewestAgainst_61 rfl <|
 x_ireturn rfl dX5_fewestAgainst_62 ⟨_, rfl, (h.1 c1)⟩) (fun c1 => x_iload dX5_fewestAgainst_27 rfl <|
 x_callS (As := [.int v5]) ok_J6_bitCount_0f7a4 ml_X5_192 (okM (by decide)) dX5_fewestAgainst_29 rfl rfl (Nat.le_of_ble_eq_true rfl) (h.2 c1) <|
 (kI (fun τ2 r3 h4 => x_iload_n dX5_fewestAgainst_32 rfl <|
 x_icmp_ge (tgt := 55) dX5_fewestAgainst_33 (by decide) (fun c5 => x_iinc (v := (v5 + 1)) (L2 := [some (.ref 0), some (.int v1), some (.int v2), some (.int v3), some (.int v4), some (.int (v5 + 1))]) dX5_fewestAgainst_55 rfl (by rw [show Int32.ofInt (1) = 1 by decide]) rfl (Nat.le_of_ble_eq_true rfl) <|
 x_goto (tgt := 20) dX5_fewestAgainst_58 (by decide) <|
 (h4.1 c5)) (fun c5 => x_aload_n dX5_fewestAgainst_36 rfl <|
 x_iload_n dX5_fewestAgainst_37 rfl <|
 x_iload dX5_fewestAgainst_38 rfl <|
 x_callV (b := 0) (As := [.int v1, .int v5]) ok_X5_isLawWith ml_X5_150 (okM (by decide)) dX5_fewestAgainst_40 rfl rfl (Nat.le_of_ble_eq_true rfl) rfl rfl rfl (h4.2 c5) <|
 (kI (fun τ6 r7 h8 => x_if_ne (tgt := 55) dX5_fewestAgainst_43 (by decide) (fun c9 => x_iinc (v := (v5 + 1)) (L2 := [some (.ref 0), some (.int v1), some (.int v2), some (.int v3), some (.int v4), some (.int (v5 + 1))]) dX5_fewestAgainst_55 rfl (by rw [show Int32.ofInt (1) = 1 by decide]) rfl (Nat.le_of_ble_eq_true rfl) <|
 x_goto (tgt := 20) dX5_fewestAgainst_58 (by decide) <|
 (h8.1 c9)) (fun c9 => x_iload dX5_fewestAgainst_46 rfl <|
 x_istore_n (L2 := [some (.ref 0), some (.int v1), some (.int v5), some (.int v3), some (.int v4), some (.int v5)]) dX5_fewestAgainst_48 rfl (Nat.le_of_ble_eq_true rfl) <|
 x_iload dX5_fewestAgainst_49 rfl <|
 x_callS (As := [.int v5]) ok_J6_bitCount_0f7a4 ml_X5_192 (okM (by decide)) dX5_fewestAgainst_51 rfl rfl (Nat.le_of_ble_eq_true rfl) (h8.2 c9) <|
 (kI (fun τ10 r11 h12 => x_istore_n (L2 := [some (.ref 0), some (.int v1), some (.int v5), some (.int r11), some (.int v4), some (.int v5)]) dX5_fewestAgainst_54 rfl (Nat.le_of_ble_eq_true rfl) <|
 x_iinc (v := (v5 + 1)) (L2 := [some (.ref 0), some (.int v1), some (.int v5), some (.int r11), some (.int v4), some (.int (v5 + 1))]) dX5_fewestAgainst_55 rfl (by rw [show Int32.ofInt (1) = 1 by decide]) rfl (Nat.le_of_ble_eq_true rfl) <|
 x_goto (tgt := 20) dX5_fewestAgainst_58 (by decide) <|
 h12)))))))))
set_option maxRecDepth 100000 in
set_option maxHeartbeats 4000000 in
theorem M_X5_fewestAgainst {E : EV} {Q : Sg → Int32 → Prop} {σ : Sg} {a1 : Int32} (h : K_X5_fewestAgainst_20 E Q σ a1 (-9 : Int32) (7 : Int32) ((1 : Int32) <<< ((gi σ 506) &&& 31)) (0 : Int32)) : MetI E mi_X5_fewestAgainst [.ref 0, .int a1] σ Q :=
 met_of (L := [some (.ref 0), some (.int a1), none, none, none, none]) pn_X5 rfl (Nat.le_of_ble_eq_true rfl) <|
 x_bipush dX5_fewestAgainst_0 bp_m9 <|
 x_istore_n (L2 := [some (.ref 0), some (.int a1), some (.int (-9 : Int32)), none, none, none]) dX5_fewestAgainst_2 rfl (Nat.le_of_ble_eq_true rfl) <|
 x_bipush dX5_fewestAgainst_3 bp_7 <|
 x_istore_n (L2 := [some (.ref 0), some (.int a1), some (.int (-9 : Int32)), some (.int (7 : Int32)), none, none]) dX5_fewestAgainst_5 rfl (Nat.le_of_ble_eq_true rfl) <|
 x_iconst dX5_fewestAgainst_6 ic_1 <|
 x_aload_n dX5_fewestAgainst_7 rfl <|
 x_getf (v := .ref 5) fl_X5_26 rfl rfl rfl dX5_fewestAgainst_8 <|
 x_getf (v := .int (gi σ 506)) fl_X5_154 rfl rfl rfl dX5_fewestAgainst_11 <|
 x_ishl dX5_fewestAgainst_14 <|
 x_istore (L2 := [some (.ref 0), some (.int a1), some (.int (-9 : Int32)), some (.int (7 : Int32)), some (.int ((1 : Int32) <<< ((gi σ 506) &&& 31))), none]) dX5_fewestAgainst_15 rfl (Nat.le_of_ble_eq_true rfl) <|
 x_iconst dX5_fewestAgainst_17 ic_0 <|
 x_istore (L2 := [some (.ref 0), some (.int a1), some (.int (-9 : Int32)), some (.int (7 : Int32)), some (.int ((1 : Int32) <<< ((gi σ 506) &&& 31))), some (.int (0 : Int32))]) dX5_fewestAgainst_18 rfl (Nat.le_of_ble_eq_true rfl) <|
 h
set_option maxRecDepth 100000 in
set_option maxHeartbeats 4000000 in
theorem M_X5_stands {E : EV} {Q : Sg → Int32 → Prop} {σ : Sg} {a1 : Int32} (h : MetI E mi_X5_isThing [.int a1] σ (fun τ1 r2 => ((¬ r2 = 0) → MetI E mi_X5_fewestAgainst [.ref 0, .int a1] τ1 (fun τ5 r6 => ((¬ r6 = (-9 : Int32)) → Q τ5 (0 : Int32)) ∧ ((r6 = (-9 : Int32)) → Q τ5 (1 : Int32)))) ∧ ((r2 = 0) → Q τ1 (-1 : Int32)))) : MetI E mi_X5_stands [.ref 0, .int a1] σ Q :=
 met_of (L := [some (.ref 0), some (.int a1)]) pn_X5 rfl (Nat.le_of_ble_eq_true rfl) <|
 x_iload_n dX5_stands_0 rfl <|
 x_callS (As := [.int a1]) ok_X5_isThing ml_X5_124 (okM (by decide)) dX5_stands_1 rfl rfl (Nat.le_of_ble_eq_true rfl) h <|
 (kI (fun τ1 r2 h3 => x_if_ne (tgt := 9) dX5_stands_4 (by decide) (fun c4 => x_aload_n dX5_stands_9 rfl <|
 x_iload_n dX5_stands_10 rfl <|
 x_callV (b := 0) (As := [.int a1]) ok_X5_fewestAgainst ml_X5_146 (okM (by decide)) dX5_stands_11 rfl rfl (Nat.le_of_ble_eq_true rfl) rfl rfl rfl (h3.1 c4) <|
 (kI (fun τ5 r6 h7 => x_bipush dX5_stands_14 bp_m9 <|
 x_icmp_ne (tgt := 23) dX5_stands_16 (by decide) (fun c8 => x_iconst dX5_stands_23 ic_0 <|
 x_ireturn rfl dX5_stands_24 ⟨_, rfl, (h7.1 c8)⟩) (fun c8 => x_iconst dX5_stands_19 ic_1 <|
 x_goto (tgt := 24) dX5_stands_20 (by decide) <|
 x_ireturn rfl dX5_stands_24 ⟨_, rfl, (h7.2 c8)⟩)))) (fun c4 => x_iconst dX5_stands_7 ic_m1 <|
 x_ireturn rfl dX5_stands_8 ⟨_, rfl, (h3.2 c4)⟩)))
set_option maxRecDepth 100000 in
set_option maxHeartbeats 4000000 in
theorem M_X5_falls {E : EV} {Q : Sg → Int32 → Prop} {σ : Sg} {a1 : Int32} (h : MetI E mi_X5_isThing [.int a1] σ (fun τ1 r2 => ((¬ r2 = 0) → MetI E mi_X5_fewestAgainst [.ref 0, .int a1] τ1 (fun τ5 r6 => Q τ5 r6)) ∧ ((r2 = 0) → Q τ1 (-1 : Int32)))) : MetI E mi_X5_falls [.ref 0, .int a1] σ Q :=
 met_of (L := [some (.ref 0), some (.int a1)]) pn_X5 rfl (Nat.le_of_ble_eq_true rfl) <|
 x_iload_n dX5_falls_0 rfl <|
 x_callS (As := [.int a1]) ok_X5_isThing ml_X5_124 (okM (by decide)) dX5_falls_1 rfl rfl (Nat.le_of_ble_eq_true rfl) h <|
 (kI (fun τ1 r2 h3 => x_if_ne (tgt := 9) dX5_falls_4 (by decide) (fun c4 => x_aload_n dX5_falls_9 rfl <|
 x_iload_n dX5_falls_10 rfl <|
 x_callV (b := 0) (As := [.int a1]) ok_X5_fewestAgainst ml_X5_146 (okM (by decide)) dX5_falls_11 rfl rfl (Nat.le_of_ble_eq_true rfl) rfl rfl rfl (h3.1 c4) <|
 (kI (fun τ5 r6 h7 => x_ireturn rfl dX5_falls_14 ⟨_, rfl, h7⟩))) (fun c4 => x_iconst dX5_falls_7 ic_m1 <|
 x_ireturn rfl dX5_falls_8 ⟨_, rfl, (h3.2 c4)⟩)))
def K_X5_alone_24 (E : EV) (Q : Sg → Int32 → Prop) (σ : Sg) (v1 : Int32) (v2 : Int32) (v3 : Int32) : Prop := J E mi_X5_alone (tgM E mi_X5_alone (qI Q)) 24 [some (.ref 0), some (.int v1), some (.int v2), some (.int v3)] [] σ
set_option maxRecDepth 100000 in
set_option maxHeartbeats 4000000 in
theorem B_X5_alone_24 {E : EV} {Q : Sg → Int32 → Prop} {σ : Sg} {v1 : Int32} {v2 : Int32} {v3 : Int32} (h : (((gi σ 506) ≤ v3) → Q σ v2) ∧ ((¬ (gi σ 506) ≤ v3) → MetI E mi_X5_isLawWith [.ref 0, .int v1, .int ((1 : Int32) <<< (v3 &&& 31))] σ (fun τ2 r3 => ((¬ r3 = 0) → K_X5_alone_24 E Q τ2 v1 v2 (v3 + 1)) ∧ ((r3 = 0) → K_X5_alone_24 E Q τ2 v1 (v2 ||| ((1 : Int32) <<< (v3 &&& 31))) (v3 + 1))))) : K_X5_alone_24 E Q σ v1 v2 v3 :=
 x_iload_n dX5_alone_24 rfl <|
 x_aload_n dX5_alone_25 rfl <|
 x_getf (v := .ref 5) fl_X5_26 rfl rfl rfl dX5_alone_26 <|
 x_getf (v := .int (gi σ 506)) fl_X5_154 rfl rfl rfl dX5_alone_29 <|
 x_icmp_ge (tgt := 58) dX5_alone_32 (by decide) (fun c1 => x_iload_n dX5_alone_58 rfl <|
 x_ireturn rfl dX5_alone_59 ⟨_, rfl, (h.1 c1)⟩) (fun c1 => x_aload_n dX5_alone_35 rfl <|
 x_iload_n dX5_alone_36 rfl <|
 x_iconst dX5_alone_37 ic_1 <|
 x_iload_n dX5_alone_38 rfl <|
 x_ishl dX5_alone_39 <|
 x_callV (b := 0) (As := [.int v1, .int ((1 : Int32) <<< (v3 &&& 31))]) ok_X5_isLawWith ml_X5_150 (okM (by decide)) dX5_alone_40 rfl rfl (Nat.le_of_ble_eq_true rfl) rfl rfl rfl (h.2 c1) <|
 (kI (fun τ2 r3 h4 => x_if_ne (tgt := 52) dX5_alone_43 (by decide) (fun c5 => x_iinc (v := (v3 + 1)) (L2 := [some (.ref 0), some (.int v1), some (.int v2), some (.int (v3 + 1))]) dX5_alone_52 rfl (by rw [show Int32.ofInt (1) = 1 by decide]) rfl (Nat.le_of_ble_eq_true rfl) <|
 x_goto (tgt := 24) dX5_alone_55 (by decide) <|
 (h4.1 c5)) (fun c5 => x_iload_n dX5_alone_46 rfl <|
 x_iconst dX5_alone_47 ic_1 <|
 x_iload_n dX5_alone_48 rfl <|
 x_ishl dX5_alone_49 <|
 x_ior dX5_alone_50 <|
 x_istore_n (L2 := [some (.ref 0), some (.int v1), some (.int (v2 ||| ((1 : Int32) <<< (v3 &&& 31)))), some (.int v3)]) dX5_alone_51 rfl (Nat.le_of_ble_eq_true rfl) <|
 x_iinc (v := (v3 + 1)) (L2 := [some (.ref 0), some (.int v1), some (.int (v2 ||| ((1 : Int32) <<< (v3 &&& 31)))), some (.int (v3 + 1))]) dX5_alone_52 rfl (by rw [show Int32.ofInt (1) = 1 by decide]) rfl (Nat.le_of_ble_eq_true rfl) <|
 x_goto (tgt := 24) dX5_alone_55 (by decide) <|
 (h4.2 c5)))))
set_option maxRecDepth 100000 in
set_option maxHeartbeats 4000000 in
theorem M_X5_alone {E : EV} {Q : Sg → Int32 → Prop} {σ : Sg} {a1 : Int32} (h : MetI E mi_X5_isThing [.int a1] σ (fun τ1 r2 => ((¬ r2 = 0) → MetI E mi_X5_isLawWith [.ref 0, .int a1, .int (0 : Int32)] τ1 (fun τ5 r6 => ((¬ r6 = 0) → K_X5_alone_24 E Q τ5 a1 (0 : Int32) (0 : Int32)) ∧ ((r6 = 0) → Q τ5 (0 : Int32)))) ∧ ((r2 = 0) → Q τ1 (-1 : Int32)))) : MetI E mi_X5_alone [.ref 0, .int a1] σ Q :=
 met_of (L := [some (.ref 0), some (.int a1), none, none]) pn_X5 rfl (Nat.le_of_ble_eq_true rfl) <|
 x_iload_n dX5_alone_0 rfl <|
 x_callS (As := [.int a1]) ok_X5_isThing ml_X5_124 (okM (by decide)) dX5_alone_1 rfl rfl (Nat.le_of_ble_eq_true rfl) h <|
 (kI (fun τ1 r2 h3 => x_if_ne (tgt := 9) dX5_alone_4 (by decide) (fun c4 => x_aload_n dX5_alone_9 rfl <|
 x_iload_n dX5_alone_10 rfl <|
 x_iconst dX5_alone_11 ic_0 <|
 x_callV (b := 0) (As := [.int a1, .int (0 : Int32)]) ok_X5_isLawWith ml_X5_150 (okM (by decide)) dX5_alone_12 rfl rfl (Nat.le_of_ble_eq_true rfl) rfl rfl rfl (h3.1 c4) <|
 (kI (fun τ5 r6 h7 => x_if_ne (tgt := 20) dX5_alone_15 (by decide) (fun c8 => x_iconst dX5_alone_20 ic_0 <|
 x_istore_n (L2 := [some (.ref 0), some (.int a1), some (.int (0 : Int32)), none]) dX5_alone_21 rfl (Nat.le_of_ble_eq_true rfl) <|
 x_iconst dX5_alone_22 ic_0 <|
 x_istore_n (L2 := [some (.ref 0), some (.int a1), some (.int (0 : Int32)), some (.int (0 : Int32))]) dX5_alone_23 rfl (Nat.le_of_ble_eq_true rfl) <|
 (h7.1 c8)) (fun c8 => x_iconst dX5_alone_18 ic_0 <|
 x_ireturn rfl dX5_alone_19 ⟨_, rfl, (h7.2 c8)⟩)))) (fun c4 => x_iconst dX5_alone_7 ic_m1 <|
 x_ireturn rfl dX5_alone_8 ⟨_, rfl, (h3.2 c4)⟩)))
def K_X5_maybesThatCarry_16 (E : EV) (Q : Sg → Int32 → Prop) (σ : Sg) (v1 : Int32) (v2 : Int32) (v3 : Int32) : Prop := J E mi_X5_maybesThatCarry (tgM E mi_X5_maybesThatCarry (qI Q)) 16 [some (.ref 0), some (.int v1), some (.int v2), some (.int v3)] [] σ
set_option maxRecDepth 100000 in
set_option maxHeartbeats 4000000 in
theorem B_X5_maybesThatCarry_16 {E : EV} {Q : Sg → Int32 → Prop} {σ : Sg} {v1 : Int32} {v2 : Int32} {v3 : Int32} (h : (((gi σ 505) ≤ v3) → Q σ v2) ∧ ((¬ (gi σ 505) ≤ v3) → vp_in v3 40 ∧ ((¬ ((gm σ 6) v3.toNatClampNeg) = (1 : Int32)) → MetV E mi_X3_play [.ref 36, .ref 5, .int v3, .int (v3 + (1 : Int32)), .int (0 : Int32)] σ (fun τ3 => K_X5_maybesThatCarry_16 E Q τ3 v1 v2 (v3 + 1))) ∧ ((((gm σ 6) v3.toNatClampNeg) = (1 : Int32)) → vp_in ((gm σ 8) v3.toNatClampNeg) 8 ∧ ((((gm σ 38) ((gm σ 8) v3.toNatClampNeg).toNatClampNeg) = 0) → MetV E mi_X3_play [.ref 36, .ref 5, .int v3, .int (v3 + (1 : Int32)), .int (0 : Int32)] σ (fun τ6 => K_X5_maybesThatCarry_16 E Q τ6 v1 v2 (v3 + 1))) ∧ ((¬ ((gm σ 38) ((gm σ 8) v3.toNatClampNeg).toNatClampNeg) = 0) → MetV E mi_X3_play [.ref 36, .ref 5, .int v3, .int (v3 + (1 : Int32)), .int (0 : Int32)] σ (fun τ8 => K_X5_maybesThatCarry_16 E Q τ8 v1 (v2 ||| ((gm σ 10) v3.toNatClampNeg)) (v3 + 1)))))) : K_X5_maybesThatCarry_16 E Q σ v1 v2 v3 :=
 x_iload_n dX5_maybesThatCarry_16 rfl <|
 x_aload_n dX5_maybesThatCarry_17 rfl <|
 x_getf (v := .ref 5) fl_X5_26 rfl rfl rfl dX5_maybesThatCarry_18 <|
 x_getf (v := .int (gi σ 505)) fl_X5_90 rfl rfl rfl dX5_maybesThatCarry_21 <|
 x_icmp_ge (tgt := 94) dX5_maybesThatCarry_24 (by decide) (fun c1 => x_iload_n dX5_maybesThatCarry_94 rfl <|
 x_ireturn rfl dX5_maybesThatCarry_95 ⟨_, rfl, (h.1 c1)⟩) (fun c1 => x_aload_n dX5_maybesThatCarry_27 rfl <|
 x_getf (v := .ref 5) fl_X5_26 rfl rfl rfl dX5_maybesThatCarry_28 <|
 x_getf (v := .ref 6) fl_X5_91 rfl rfl rfl dX5_maybesThatCarry_31 <|
 x_iload_n dX5_maybesThatCarry_34 rfl <|
 x_iaload (v := ((gm σ 6) v3.toNatClampNeg)) rfl (h.2 c1).1 rfl dX5_maybesThatCarry_35 <|
 x_iconst dX5_maybesThatCarry_36 ic_1 <|
 x_icmp_ne (tgt := 72) dX5_maybesThatCarry_37 (by decide) (fun c2 => x_aload_n dX5_maybesThatCarry_72 rfl <|
 x_getf (v := .ref 36) fl_X5_59 rfl rfl rfl dX5_maybesThatCarry_73 <|
 x_aload_n dX5_maybesThatCarry_76 rfl <|
 x_getf (v := .ref 5) fl_X5_26 rfl rfl rfl dX5_maybesThatCarry_77 <|
 x_iload_n dX5_maybesThatCarry_80 rfl <|
 x_iload_n dX5_maybesThatCarry_81 rfl <|
 x_iconst dX5_maybesThatCarry_82 ic_1 <|
 x_iadd dX5_maybesThatCarry_83 <|
 x_iconst dX5_maybesThatCarry_84 ic_0 <|
 x_callV (b := 36) (As := [.ref 5, .int v3, .int (v3 + (1 : Int32)), .int (0 : Int32)]) ok_X3_play ml_X5_230 (okM (by decide)) dX5_maybesThatCarry_85 rfl rfl (Nat.le_of_ble_eq_true rfl) rfl rfl rfl ((h.2 c1).2.1 c2) <|
 (kV (fun τ3 h4 => x_iinc (v := (v3 + 1)) (L2 := [some (.ref 0), some (.int v1), some (.int v2), some (.int (v3 + 1))]) dX5_maybesThatCarry_88 rfl (by rw [show Int32.ofInt (1) = 1 by decide]) rfl (Nat.le_of_ble_eq_true rfl) <|
 x_goto (tgt := 16) dX5_maybesThatCarry_91 (by decide) <|
 h4))) (fun c2 => x_aload_n dX5_maybesThatCarry_40 rfl <|
 x_getf (v := .ref 36) fl_X5_59 rfl rfl rfl dX5_maybesThatCarry_41 <|
 x_getf (v := .ref 38) fl_X5_131 rfl rfl rfl dX5_maybesThatCarry_44 <|
 x_aload_n dX5_maybesThatCarry_47 rfl <|
 x_getf (v := .ref 5) fl_X5_26 rfl rfl rfl dX5_maybesThatCarry_48 <|
 x_getf (v := .ref 8) fl_X5_98 rfl rfl rfl dX5_maybesThatCarry_51 <|
 x_iload_n dX5_maybesThatCarry_54 rfl <|
 x_iaload (v := ((gm σ 8) v3.toNatClampNeg)) rfl (h.2 c1).1 rfl dX5_maybesThatCarry_55 <|
 x_iaload (v := ((gm σ 38) ((gm σ 8) v3.toNatClampNeg).toNatClampNeg)) rfl ((h.2 c1).2.2 c2).1 rfl dX5_maybesThatCarry_56 <|
 x_if_eq (tgt := 72) dX5_maybesThatCarry_57 (by decide) (fun c5 => x_aload_n dX5_maybesThatCarry_72 rfl <|
 x_getf (v := .ref 36) fl_X5_59 rfl rfl rfl dX5_maybesThatCarry_73 <|
 x_aload_n dX5_maybesThatCarry_76 rfl <|
 x_getf (v := .ref 5) fl_X5_26 rfl rfl rfl dX5_maybesThatCarry_77 <|
 x_iload_n dX5_maybesThatCarry_80 rfl <|
 x_iload_n dX5_maybesThatCarry_81 rfl <|
 x_iconst dX5_maybesThatCarry_82 ic_1 <|
 x_iadd dX5_maybesThatCarry_83 <|
 x_iconst dX5_maybesThatCarry_84 ic_0 <|
 x_callV (b := 36) (As := [.ref 5, .int v3, .int (v3 + (1 : Int32)), .int (0 : Int32)]) ok_X3_play ml_X5_230 (okM (by decide)) dX5_maybesThatCarry_85 rfl rfl (Nat.le_of_ble_eq_true rfl) rfl rfl rfl (((h.2 c1).2.2 c2).2.1 c5) <|
 (kV (fun τ6 h7 => x_iinc (v := (v3 + 1)) (L2 := [some (.ref 0), some (.int v1), some (.int v2), some (.int (v3 + 1))]) dX5_maybesThatCarry_88 rfl (by rw [show Int32.ofInt (1) = 1 by decide]) rfl (Nat.le_of_ble_eq_true rfl) <|
 x_goto (tgt := 16) dX5_maybesThatCarry_91 (by decide) <|
 h7))) (fun c5 => x_iload_n dX5_maybesThatCarry_60 rfl <|
 x_aload_n dX5_maybesThatCarry_61 rfl <|
 x_getf (v := .ref 5) fl_X5_26 rfl rfl rfl dX5_maybesThatCarry_62 <|
 x_getf (v := .ref 10) fl_X5_234 rfl rfl rfl dX5_maybesThatCarry_65 <|
 x_iload_n dX5_maybesThatCarry_68 rfl <|
 x_iaload (v := ((gm σ 10) v3.toNatClampNeg)) rfl (h.2 c1).1 rfl dX5_maybesThatCarry_69 <|
 x_ior dX5_maybesThatCarry_70 <|
 x_istore_n (L2 := [some (.ref 0), some (.int v1), some (.int (v2 ||| ((gm σ 10) v3.toNatClampNeg))), some (.int v3)]) dX5_maybesThatCarry_71 rfl (Nat.le_of_ble_eq_true rfl) <|
 x_aload_n dX5_maybesThatCarry_72 rfl <|
 x_getf (v := .ref 36) fl_X5_59 rfl rfl rfl dX5_maybesThatCarry_73 <|
 x_aload_n dX5_maybesThatCarry_76 rfl <|
 x_getf (v := .ref 5) fl_X5_26 rfl rfl rfl dX5_maybesThatCarry_77 <|
 x_iload_n dX5_maybesThatCarry_80 rfl <|
 x_iload_n dX5_maybesThatCarry_81 rfl <|
 x_iconst dX5_maybesThatCarry_82 ic_1 <|
 x_iadd dX5_maybesThatCarry_83 <|
 x_iconst dX5_maybesThatCarry_84 ic_0 <|
 x_callV (b := 36) (As := [.ref 5, .int v3, .int (v3 + (1 : Int32)), .int (0 : Int32)]) ok_X3_play ml_X5_230 (okM (by decide)) dX5_maybesThatCarry_85 rfl rfl (Nat.le_of_ble_eq_true rfl) rfl rfl rfl (((h.2 c1).2.2 c2).2.2 c5) <|
 (kV (fun τ8 h9 => x_iinc (v := (v3 + 1)) (L2 := [some (.ref 0), some (.int v1), some (.int (v2 ||| ((gm σ 10) v3.toNatClampNeg))), some (.int (v3 + 1))]) dX5_maybesThatCarry_88 rfl (by rw [show Int32.ofInt (1) = 1 by decide]) rfl (Nat.le_of_ble_eq_true rfl) <|
 x_goto (tgt := 16) dX5_maybesThatCarry_91 (by decide) <|
 h9)))))
set_option maxRecDepth 100000 in
set_option maxHeartbeats 4000000 in
theorem M_X5_maybesThatCarry {E : EV} {Q : Sg → Int32 → Prop} {σ : Sg} {a1 : Int32} (h : MetV E mi_X3_begin [.ref 36, .ref 3, .int a1] σ (fun τ1 => K_X5_maybesThatCarry_16 E Q τ1 a1 (0 : Int32) (0 : Int32))) : MetI E mi_X5_maybesThatCarry [.ref 0, .int a1] σ Q :=
 met_of (L := [some (.ref 0), some (.int a1), none, none]) pn_X5 rfl (Nat.le_of_ble_eq_true rfl) <|
 x_iconst dX5_maybesThatCarry_0 ic_0 <|
 x_istore_n (L2 := [some (.ref 0), some (.int a1), some (.int (0 : Int32)), none]) dX5_maybesThatCarry_1 rfl (Nat.le_of_ble_eq_true rfl) <|
 x_aload_n dX5_maybesThatCarry_2 rfl <|
 x_getf (v := .ref 36) fl_X5_59 rfl rfl rfl dX5_maybesThatCarry_3 <|
 x_aload_n dX5_maybesThatCarry_6 rfl <|
 x_getf (v := .ref 3) fl_X5_19 rfl rfl rfl dX5_maybesThatCarry_7 <|
 x_iload_n dX5_maybesThatCarry_10 rfl <|
 x_callV (b := 36) (As := [.ref 3, .int a1]) ok_X3_begin ml_X5_226 (okM (by decide)) dX5_maybesThatCarry_11 rfl rfl (Nat.le_of_ble_eq_true rfl) rfl rfl rfl h <|
 (kV (fun τ1 h2 => x_iconst dX5_maybesThatCarry_14 ic_0 <|
 x_istore_n (L2 := [some (.ref 0), some (.int a1), some (.int (0 : Int32)), some (.int (0 : Int32))]) dX5_maybesThatCarry_15 rfl (Nat.le_of_ble_eq_true rfl) <|
 h2))
def K_X5_empty_4 (E : EV) (Q : Sg → Int32 → Prop) (σ : Sg) (v1 : Int32) (v2 : Int32) : Prop := J E mi_X5_empty (tgM E mi_X5_empty (qI Q)) 4 [some (.ref 0), some (.int v1), some (.int v2)] [] σ
set_option maxRecDepth 100000 in
set_option maxHeartbeats 4000000 in
theorem B_X5_empty_4 {E : EV} {Q : Sg → Int32 → Prop} {σ : Sg} {v1 : Int32} {v2 : Int32} (h : (((4 : Int32) ≤ v2) → Q σ ((v1 ^^^ (-1 : Int32)) &&& (((1 : Int32) <<< ((gi σ 506) &&& 31)) - (1 : Int32)))) ∧ ((¬ (4 : Int32) ≤ v2) → MetI E mi_X5_maybesThatCarry [.ref 0, .int v2] σ (fun τ2 r3 => K_X5_empty_4 E Q τ2 (v1 ||| r3) (v2 + 1)))) : K_X5_empty_4 E Q σ v1 v2 :=
 x_iload_n dX5_empty_4 rfl <|
 x_iconst dX5_empty_5 ic_4 <|
 x_icmp_ge (tgt := 23) dX5_empty_6 (by decide) (fun c1 => x_iload_n dX5_empty_23 rfl <|
 x_iconst dX5_empty_24 ic_m1 <|
 x_ixor dX5_empty_25 <|
 x_iconst dX5_empty_26 ic_1 <|
 x_aload_n dX5_empty_27 rfl <|
 x_getf (v := .ref 5) fl_X5_26 rfl rfl rfl dX5_empty_28 <|
 x_getf (v := .int (gi σ 506)) fl_X5_154 rfl rfl rfl dX5_empty_31 <|
 x_ishl dX5_empty_34 <|
 x_iconst dX5_empty_35 ic_1 <|
 x_isub dX5_empty_36 <|
 x_iand dX5_empty_37 <|
 x_ireturn rfl dX5_empty_38 ⟨_, rfl, (h.1 c1)⟩) (fun c1 => x_iload_n dX5_empty_9 rfl <|
 x_aload_n dX5_empty_10 rfl <|
 x_iload_n dX5_empty_11 rfl <|
 x_callV (b := 0) (As := [.int v2]) ok_X5_maybesThatCarry ml_X5_157 (okM (by decide)) dX5_empty_12 rfl rfl (Nat.le_of_ble_eq_true rfl) rfl rfl rfl (h.2 c1) <|
 (kI (fun τ2 r3 h4 => x_ior dX5_empty_15 <|
 x_istore_n (L2 := [some (.ref 0), some (.int (v1 ||| r3)), some (.int v2)]) dX5_empty_16 rfl (Nat.le_of_ble_eq_true rfl) <|
 x_iinc (v := (v2 + 1)) (L2 := [some (.ref 0), some (.int (v1 ||| r3)), some (.int (v2 + 1))]) dX5_empty_17 rfl (by rw [show Int32.ofInt (1) = 1 by decide]) rfl (Nat.le_of_ble_eq_true rfl) <|
 x_goto (tgt := 4) dX5_empty_20 (by decide) <|
 h4)))
set_option maxRecDepth 100000 in
set_option maxHeartbeats 4000000 in
theorem M_X5_empty {E : EV} {Q : Sg → Int32 → Prop} {σ : Sg} (h : K_X5_empty_4 E Q σ (0 : Int32) (0 : Int32)) : MetI E mi_X5_empty [.ref 0] σ Q :=
 met_of (L := [some (.ref 0), none, none]) pn_X5 rfl (Nat.le_of_ble_eq_true rfl) <|
 x_iconst dX5_empty_0 ic_0 <|
 x_istore_n (L2 := [some (.ref 0), some (.int (0 : Int32)), none]) dX5_empty_1 rfl (Nat.le_of_ble_eq_true rfl) <|
 x_iconst dX5_empty_2 ic_0 <|
 x_istore_n (L2 := [some (.ref 0), some (.int (0 : Int32)), some (.int (0 : Int32))]) dX5_empty_3 rfl (Nat.le_of_ble_eq_true rfl) <|
 h
set_option maxRecDepth 100000 in
set_option maxHeartbeats 4000000 in
theorem M_X5_isDay {E : EV} {Q : Sg → Int32 → Prop} {σ : Sg} {a1 : Int32} (h : ((a1 < 0) → Q σ (0 : Int32)) ∧ ((¬ a1 < 0) → (((99 : Int32) < a1) → Q σ (0 : Int32)) ∧ ((¬ (99 : Int32) < a1) → Q σ (1 : Int32)))) : MetI E mi_X5_isDay [.int a1] σ Q :=
 met_of (L := [some (.int a1)]) pn_X5 rfl (Nat.le_of_ble_eq_true rfl) <|
 x_iload_n dX5_isDay_0 rfl <|
 x_if_lt (tgt := 14) dX5_isDay_1 (by decide) (fun c1 => x_iconst dX5_isDay_14 ic_0 <|
 x_zreturn rfl (Or.inl rfl) dX5_isDay_15 ⟨_, rfl, (h.1 c1)⟩) (fun c1 => x_iload_n dX5_isDay_4 rfl <|
 x_bipush dX5_isDay_5 bp_99 <|
 x_icmp_gt (tgt := 14) dX5_isDay_7 (by decide) (fun c2 => x_iconst dX5_isDay_14 ic_0 <|
 x_zreturn rfl (Or.inl rfl) dX5_isDay_15 ⟨_, rfl, ((h.2 c1).1 c2)⟩) (fun c2 => x_iconst dX5_isDay_10 ic_1 <|
 x_goto (tgt := 15) dX5_isDay_11 (by decide) <|
 x_zreturn rfl (Or.inr rfl) dX5_isDay_15 ⟨_, rfl, ((h.2 c1).2 c2)⟩))
set_option maxRecDepth 100000 in
set_option maxHeartbeats 4000000 in
theorem M_X5_tellAhead {E : EV} {Q : Sg → Prop} {σ : Sg} {a1 : Int32} {a2 : Int32} (h : MetV E mi_X3_begin [.ref 32, .ref 3, .int a1] σ (fun τ1 => MetI E mi_X0_firstFrom [.ref 5, .int a2] τ1 (fun τ3 r4 => MetV E mi_X3_play [.ref 32, .ref 5, .int (0 : Int32), .int r4, .int (0 : Int32)] τ3 (fun τ6 => Q τ6)))) : MetV E mi_X5_tellAhead [.ref 0, .int a1, .int a2] σ Q :=
 met_of (L := [some (.ref 0), some (.int a1), some (.int a2)]) pn_X5 rfl (Nat.le_of_ble_eq_true rfl) <|
 x_aload_n dX5_tellAhead_0 rfl <|
 x_getf (v := .ref 32) fl_X5_55 rfl rfl rfl dX5_tellAhead_1 <|
 x_aload_n dX5_tellAhead_4 rfl <|
 x_getf (v := .ref 3) fl_X5_19 rfl rfl rfl dX5_tellAhead_5 <|
 x_iload_n dX5_tellAhead_8 rfl <|
 x_callV (b := 32) (As := [.ref 3, .int a1]) ok_X3_begin ml_X5_226 (okM (by decide)) dX5_tellAhead_9 rfl rfl (Nat.le_of_ble_eq_true rfl) rfl rfl rfl h <|
 (kV (fun τ1 h2 => x_aload_n dX5_tellAhead_12 rfl <|
 x_getf (v := .ref 32) fl_X5_55 rfl rfl rfl dX5_tellAhead_13 <|
 x_aload_n dX5_tellAhead_16 rfl <|
 x_getf (v := .ref 5) fl_X5_26 rfl rfl rfl dX5_tellAhead_17 <|
 x_iconst dX5_tellAhead_20 ic_0 <|
 x_aload_n dX5_tellAhead_21 rfl <|
 x_getf (v := .ref 5) fl_X5_26 rfl rfl rfl dX5_tellAhead_22 <|
 x_iload_n dX5_tellAhead_25 rfl <|
 x_callV (b := 5) (As := [.int a2]) ok_X0_firstFrom ml_X5_170 (okM (by decide)) dX5_tellAhead_26 rfl rfl (Nat.le_of_ble_eq_true rfl) rfl rfl rfl h2 <|
 (kI (fun τ3 r4 h5 => x_iconst dX5_tellAhead_29 ic_0 <|
 x_callV (b := 32) (As := [.ref 5, .int (0 : Int32), .int r4, .int (0 : Int32)]) ok_X3_play ml_X5_230 (okM (by decide)) dX5_tellAhead_30 rfl rfl (Nat.le_of_ble_eq_true rfl) rfl rfl rfl h5 <|
 (kV (fun τ6 h7 => x_return rfl dX5_tellAhead_33 ⟨rfl, h7⟩))))))
def K_X5_isLawIf_14 (E : EV) (Q : Sg → Int32 → Prop) (σ : Sg) (v1 : Int32) (v2 : Int32) (v3 : Int32) (v4 : Int32) : Prop := J E mi_X5_isLawIf (tgM E mi_X5_isLawIf (qI Q)) 14 [some (.ref 0), some (.int v1), some (.int v2), some (.int v3), some (.int v4)] [] σ
set_option maxRecDepth 100000 in
set_option maxHeartbeats 4000000 in
theorem B_X5_isLawIf_14 {E : EV} {Q : Sg → Int32 → Prop} {σ : Sg} {v1 : Int32} {v2 : Int32} {v3 : Int32} {v4 : Int32} (h : (((gi σ 301) ≤ v4) → MetV E mi_X3_play [.ref 36, .ref 5, .int v3, .int (gi σ 505), .int (0 : Int32)] σ (fun τ2 => MetI E mi_X3_leastThree [.ref 36] τ2 (fun τ4 r5 => ((r5 = 0) → Q τ4 (0 : Int32)) ∧ ((¬ r5 = 0) → Q τ4 (1 : Int32))))) ∧ ((¬ (gi σ 301) ≤ v4) → ((((v1 >>> (v4 &&& 31)) &&& (1 : Int32)) = 0) → K_X5_isLawIf_14 E Q σ v1 v2 v3 (v4 + 1)) ∧ ((¬ ((v1 >>> (v4 &&& 31)) &&& (1 : Int32)) = 0) → MetI E mi_X3_choose [.ref 36, .int v4, .int v2] σ (fun τ9 r10 => K_X5_isLawIf_14 E Q τ9 v1 v2 v3 (v4 + 1))))) : K_X5_isLawIf_14 E Q σ v1 v2 v3 v4 :=
 x_iload dX5_isLawIf_14 rfl <|
 x_aload_n dX5_isLawIf_16 rfl <|
 x_getf (v := .ref 3) fl_X5_19 rfl rfl rfl dX5_isLawIf_17 <|
 x_getf (v := .int (gi σ 301)) fl_X5_225 rfl rfl rfl dX5_isLawIf_20 <|
 x_icmp_ge (tgt := 52) dX5_isLawIf_23 (by decide) (fun c1 => x_aload_n dX5_isLawIf_52 rfl <|
 x_getf (v := .ref 36) fl_X5_59 rfl rfl rfl dX5_isLawIf_53 <|
 x_aload_n dX5_isLawIf_56 rfl <|
 x_getf (v := .ref 5) fl_X5_26 rfl rfl rfl dX5_isLawIf_57 <|
 x_iload_n dX5_isLawIf_60 rfl <|
 x_aload_n dX5_isLawIf_61 rfl <|
 x_getf (v := .ref 5) fl_X5_26 rfl rfl rfl dX5_isLawIf_62 <|
 x_getf (v := .int (gi σ 505)) fl_X5_90 rfl rfl rfl dX5_isLawIf_65 <|
 x_iconst dX5_isLawIf_68 ic_0 <|
 x_callV (b := 36) (As := [.ref 5, .int v3, .int (gi σ 505), .int (0 : Int32)]) ok_X3_play ml_X5_230 (okM (by decide)) dX5_isLawIf_69 rfl rfl (Nat.le_of_ble_eq_true rfl) rfl rfl rfl (h.1 c1) <|
 (kV (fun τ2 h3 => x_aload_n dX5_isLawIf_72 rfl <|
 x_getf (v := .ref 36) fl_X5_59 rfl rfl rfl dX5_isLawIf_73 <|
 x_callV (b := 36) (As := []) ok_X3_leastThree ml_X5_244 (okM (by decide)) dX5_isLawIf_76 rfl rfl (Nat.le_of_ble_eq_true rfl) rfl rfl rfl h3 <|
 (kI (fun τ4 r5 h6 => x_if_eq (tgt := 86) dX5_isLawIf_79 (by decide) (fun c7 => x_iconst dX5_isLawIf_86 ic_0 <|
 x_zreturn rfl (Or.inl rfl) dX5_isLawIf_87 ⟨_, rfl, (h6.1 c7)⟩) (fun c7 => x_iconst dX5_isLawIf_82 ic_1 <|
 x_goto (tgt := 87) dX5_isLawIf_83 (by decide) <|
 x_zreturn rfl (Or.inr rfl) dX5_isLawIf_87 ⟨_, rfl, (h6.2 c7)⟩)))))) (fun c1 => x_iload_n dX5_isLawIf_26 rfl <|
 x_iload dX5_isLawIf_27 rfl <|
 x_ishr dX5_isLawIf_29 <|
 x_iconst dX5_isLawIf_30 ic_1 <|
 x_iand dX5_isLawIf_31 <|
 x_if_eq (tgt := 46) dX5_isLawIf_32 (by decide) (fun c8 => x_iinc (v := (v4 + 1)) (L2 := [some (.ref 0), some (.int v1), some (.int v2), some (.int v3), some (.int (v4 + 1))]) dX5_isLawIf_46 rfl (by rw [show Int32.ofInt (1) = 1 by decide]) rfl (Nat.le_of_ble_eq_true rfl) <|
 x_goto (tgt := 14) dX5_isLawIf_49 (by decide) <|
 ((h.2 c1).1 c8)) (fun c8 => x_aload_n dX5_isLawIf_35 rfl <|
 x_getf (v := .ref 36) fl_X5_59 rfl rfl rfl dX5_isLawIf_36 <|
 x_iload dX5_isLawIf_39 rfl <|
 x_iload_n dX5_isLawIf_41 rfl <|
 x_callV (b := 36) (As := [.int v4, .int v2]) ok_X3_choose ml_X5_240 (okM (by decide)) dX5_isLawIf_42 rfl rfl (Nat.le_of_ble_eq_true rfl) rfl rfl rfl ((h.2 c1).2 c8) <|
 (kI (fun τ9 r10 h11 => x_pop dX5_isLawIf_45 rfl <|
 x_iinc (v := (v4 + 1)) (L2 := [some (.ref 0), some (.int v1), some (.int v2), some (.int v3), some (.int (v4 + 1))]) dX5_isLawIf_46 rfl (by rw [show Int32.ofInt (1) = 1 by decide]) rfl (Nat.le_of_ble_eq_true rfl) <|
 x_goto (tgt := 14) dX5_isLawIf_49 (by decide) <|
 h11))))
set_option maxRecDepth 100000 in
set_option maxHeartbeats 4000000 in
theorem M_X5_isLawIf {E : EV} {Q : Sg → Int32 → Prop} {σ : Sg} {a1 : Int32} {a2 : Int32} {a3 : Int32} (h : MetV E mi_X3_takeFrom [.ref 36, .ref 32] σ (fun τ1 => K_X5_isLawIf_14 E Q τ1 a1 a2 a3 (0 : Int32))) : MetI E mi_X5_isLawIf [.ref 0, .int a1, .int a2, .int a3] σ Q :=
 met_of (L := [some (.ref 0), some (.int a1), some (.int a2), some (.int a3), none]) pn_X5 rfl (Nat.le_of_ble_eq_true rfl) <|
 x_aload_n dX5_isLawIf_0 rfl <|
 x_getf (v := .ref 36) fl_X5_59 rfl rfl rfl dX5_isLawIf_1 <|
 x_aload_n dX5_isLawIf_4 rfl <|
 x_getf (v := .ref 32) fl_X5_55 rfl rfl rfl dX5_isLawIf_5 <|
 x_callV (b := 36) (As := [.ref 32]) ok_X3_takeFrom ml_X5_237 (okM (by decide)) dX5_isLawIf_8 rfl rfl (Nat.le_of_ble_eq_true rfl) rfl rfl rfl h <|
 (kV (fun τ1 h2 => x_iconst dX5_isLawIf_11 ic_0 <|
 x_istore (L2 := [some (.ref 0), some (.int a1), some (.int a2), some (.int a3), some (.int (0 : Int32))]) dX5_isLawIf_12 rfl (Nat.le_of_ble_eq_true rfl) <|
 h2))
def K_X5_fewestChosen_38 (E : EV) (Q : Sg → Int32 → Prop) (σ : Sg) (v1 : Int32) (v2 : Int32) (v3 : Int32) (v4 : Int32) (v5 : Int32) (v6 : Int32) (v7 : Int32) (v8 : Int32) : Prop := J E mi_X5_fewestChosen (tgM E mi_X5_fewestChosen (qI Q)) 38 [some (.ref 0), some (.int v1), some (.int v2), some (.int v3), some (.int v4), some (.int v5), some (.int v6), some (.int v7), some (.int v8)] [] σ
set_option maxRecDepth 100000 in
set_option maxHeartbeats 4000000 in
theorem B_X5_fewestChosen_38 {E : EV} {Q : Sg → Int32 → Prop} {σ : Sg} {v1 : Int32} {v2 : Int32} {v3 : Int32} {v4 : Int32} {v5 : Int32} {v6 : Int32} {v7 : Int32} {v8 : Int32} (h : ((v7 ≤ v8) → Q σ v5) ∧ ((¬ v7 ≤ v8) → MetI E mi_J6_bitCount_0f7a4 [.int v8] σ (fun τ2 r3 => ((v6 ≤ r3) → K_X5_fewestChosen_38 E Q τ2 v1 v2 v3 v4 v5 v6 v7 (v8 + 1)) ∧ ((¬ v6 ≤ r3) → MetI E mi_X5_isLawIf [.ref 0, .int v8, .int v3, .int v4] τ2 (fun τ6 r7 => ((¬ r7 = v3) → K_X5_fewestChosen_38 E Q τ6 v1 v2 v3 v4 v5 v6 v7 (v8 + 1)) ∧ ((r7 = v3) → MetI E mi_J6_bitCount_0f7a4 [.int v8] τ6 (fun τ10 r11 => K_X5_fewestChosen_38 E Q τ10 v1 v2 v3 v4 v8 r11 v7 (v8 + 1)))))))) : K_X5_fewestChosen_38 E Q σ v1 v2 v3 v4 v5 v6 v7 v8 :=
 x_iload dX5_fewestChosen_38 rfl <|
 x_iload dX5_fewestChosen_40 rfl <|
 x_icmp_ge (tgt := 85) dX5_fewestChosen_42 (by decide) (fun c1 => x_iload dX5_fewestChosen_85 rfl <|
 x_ireturn rfl dX5_fewestChosen_87 ⟨_, rfl, (h.1 c1)⟩) (fun c1 => x_iload dX5_fewestChosen_45 rfl <|
 x_callS (As := [.int v8]) ok_J6_bitCount_0f7a4 ml_X5_192 (okM (by decide)) dX5_fewestChosen_47 rfl rfl (Nat.le_of_ble_eq_true rfl) (h.2 c1) <|
 (kI (fun τ2 r3 h4 => x_iload dX5_fewestChosen_50 rfl <|
 x_icmp_ge (tgt := 79) dX5_fewestChosen_52 (by decide) (fun c5 => x_iinc (v := (v8 + 1)) (L2 := [some (.ref 0), some (.int v1), some (.int v2), some (.int v3), some (.int v4), some (.int v5), some (.int v6), some (.int v7), some (.int (v8 + 1))]) dX5_fewestChosen_79 rfl (by rw [show Int32.ofInt (1) = 1 by decide]) rfl (Nat.le_of_ble_eq_true rfl) <|
 x_goto (tgt := 38) dX5_fewestChosen_82 (by decide) <|
 (h4.1 c5)) (fun c5 => x_aload_n dX5_fewestChosen_55 rfl <|
 x_iload dX5_fewestChosen_56 rfl <|
 x_iload_n dX5_fewestChosen_58 rfl <|
 x_iload dX5_fewestChosen_59 rfl <|
 x_callV (b := 0) (As := [.int v8, .int v3, .int v4]) ok_X5_isLawIf ml_X5_188 (okM (by decide)) dX5_fewestChosen_61 rfl rfl (Nat.le_of_ble_eq_true rfl) rfl rfl rfl (h4.2 c5) <|
 (kI (fun τ6 r7 h8 => x_iload_n dX5_fewestChosen_64 rfl <|
 x_icmp_ne (tgt := 79) dX5_fewestChosen_65 (by decide) (fun c9 => x_iinc (v := (v8 + 1)) (L2 := [some (.ref 0), some (.int v1), some (.int v2), some (.int v3), some (.int v4), some (.int v5), some (.int v6), some (.int v7), some (.int (v8 + 1))]) dX5_fewestChosen_79 rfl (by rw [show Int32.ofInt (1) = 1 by decide]) rfl (Nat.le_of_ble_eq_true rfl) <|
 x_goto (tgt := 38) dX5_fewestChosen_82 (by decide) <|
 (h8.1 c9)) (fun c9 => x_iload dX5_fewestChosen_68 rfl <|
 x_istore (L2 := [some (.ref 0), some (.int v1), some (.int v2), some (.int v3), some (.int v4), some (.int v8), some (.int v6), some (.int v7), some (.int v8)]) dX5_fewestChosen_70 rfl (Nat.le_of_ble_eq_true rfl) <|
 x_iload dX5_fewestChosen_72 rfl <|
 x_callS (As := [.int v8]) ok_J6_bitCount_0f7a4 ml_X5_192 (okM (by decide)) dX5_fewestChosen_74 rfl rfl (Nat.le_of_ble_eq_true rfl) (h8.2 c9) <|
 (kI (fun τ10 r11 h12 => x_istore (L2 := [some (.ref 0), some (.int v1), some (.int v2), some (.int v3), some (.int v4), some (.int v8), some (.int r11), some (.int v7), some (.int v8)]) dX5_fewestChosen_77 rfl (Nat.le_of_ble_eq_true rfl) <|
 x_iinc (v := (v8 + 1)) (L2 := [some (.ref 0), some (.int v1), some (.int v2), some (.int v3), some (.int v4), some (.int v8), some (.int r11), some (.int v7), some (.int (v8 + 1))]) dX5_fewestChosen_79 rfl (by rw [show Int32.ofInt (1) = 1 by decide]) rfl (Nat.le_of_ble_eq_true rfl) <|
 x_goto (tgt := 38) dX5_fewestChosen_82 (by decide) <|
 h12)))))))))
set_option maxRecDepth 100000 in
set_option maxHeartbeats 4000000 in
theorem M_X5_fewestChosen {E : EV} {Q : Sg → Int32 → Prop} {σ : Sg} {a1 : Int32} {a2 : Int32} {a3 : Int32} (h : MetV E mi_X5_tellAhead [.ref 0, .int a1, .int a2] σ (fun τ1 => MetI E mi_X0_firstFrom [.ref 5, .int a2] τ1 (fun τ3 r4 => K_X5_fewestChosen_38 E Q τ3 a1 a2 a3 r4 (-9 : Int32) (9 : Int32) ((1 : Int32) <<< ((gi τ3 301) &&& 31)) (0 : Int32)))) : MetI E mi_X5_fewestChosen [.ref 0, .int a1, .int a2, .int a3] σ Q :=
 met_of (L := [some (.ref 0), some (.int a1), some (.int a2), some (.int a3), none, none, none, none, none]) pn_X5 rfl (Nat.le_of_ble_eq_true rfl) <|
 x_aload_n dX5_fewestChosen_0 rfl <|
 x_iload_n dX5_fewestChosen_1 rfl <|
 x_iload_n dX5_fewestChosen_2 rfl <|
 x_callV (b := 0) (As := [.int a1, .int a2]) ok_X5_tellAhead ml_X5_167 (okM (by decide)) dX5_fewestChosen_3 rfl rfl (Nat.le_of_ble_eq_true rfl) rfl rfl rfl h <|
 (kV (fun τ1 h2 => x_aload_n dX5_fewestChosen_6 rfl <|
 x_getf (v := .ref 5) fl_X5_26 rfl rfl rfl dX5_fewestChosen_7 <|
 x_iload_n dX5_fewestChosen_10 rfl <|
 x_callV (b := 5) (As := [.int a2]) ok_X0_firstFrom ml_X5_170 (okM (by decide)) dX5_fewestChosen_11 rfl rfl (Nat.le_of_ble_eq_true rfl) rfl rfl rfl h2 <|
 (kI (fun τ3 r4 h5 => x_istore (L2 := [some (.ref 0), some (.int a1), some (.int a2), some (.int a3), some (.int r4), none, none, none, none]) dX5_fewestChosen_14 rfl (Nat.le_of_ble_eq_true rfl) <|
 x_bipush dX5_fewestChosen_16 bp_m9 <|
 x_istore (L2 := [some (.ref 0), some (.int a1), some (.int a2), some (.int a3), some (.int r4), some (.int (-9 : Int32)), none, none, none]) dX5_fewestChosen_18 rfl (Nat.le_of_ble_eq_true rfl) <|
 x_bipush dX5_fewestChosen_20 bp_9 <|
 x_istore (L2 := [some (.ref 0), some (.int a1), some (.int a2), some (.int a3), some (.int r4), some (.int (-9 : Int32)), some (.int (9 : Int32)), none, none]) dX5_fewestChosen_22 rfl (Nat.le_of_ble_eq_true rfl) <|
 x_iconst dX5_fewestChosen_24 ic_1 <|
 x_aload_n dX5_fewestChosen_25 rfl <|
 x_getf (v := .ref 3) fl_X5_19 rfl rfl rfl dX5_fewestChosen_26 <|
 x_getf (v := .int (gi τ3 301)) fl_X5_225 rfl rfl rfl dX5_fewestChosen_29 <|
 x_ishl dX5_fewestChosen_32 <|
 x_istore (L2 := [some (.ref 0), some (.int a1), some (.int a2), some (.int a3), some (.int r4), some (.int (-9 : Int32)), some (.int (9 : Int32)), some (.int ((1 : Int32) <<< ((gi τ3 301) &&& 31))), none]) dX5_fewestChosen_33 rfl (Nat.le_of_ble_eq_true rfl) <|
 x_iconst dX5_fewestChosen_35 ic_0 <|
 x_istore (L2 := [some (.ref 0), some (.int a1), some (.int a2), some (.int a3), some (.int r4), some (.int (-9 : Int32)), some (.int (9 : Int32)), some (.int ((1 : Int32) <<< ((gi τ3 301) &&& 31))), some (.int (0 : Int32))]) dX5_fewestChosen_36 rfl (Nat.le_of_ble_eq_true rfl) <|
 h5))))
set_option maxRecDepth 100000 in
set_option maxHeartbeats 4000000 in
theorem M_X5_hints {E : EV} {Q : Sg → Int32 → Prop} {σ : Sg} {a1 : Int32} {a2 : Int32} (h : MetI E mi_X5_isThing [.int a1] σ (fun τ1 r2 => ((r2 = 0) → Q τ1 (-1 : Int32)) ∧ ((¬ r2 = 0) → MetI E mi_X5_isDay [.int a2] τ1 (fun τ5 r6 => ((¬ r6 = 0) → MetI E mi_X5_fewestChosen [.ref 0, .int a1, .int a2, .int (1 : Int32)] τ5 (fun τ9 r10 => Q τ9 r10)) ∧ ((r6 = 0) → Q τ5 (-1 : Int32)))))) : MetI E mi_X5_hints [.ref 0, .int a1, .int a2] σ Q :=
 met_of (L := [some (.ref 0), some (.int a1), some (.int a2)]) pn_X5 rfl (Nat.le_of_ble_eq_true rfl) <|
 x_iload_n dX5_hints_0 rfl <|
 x_callS (As := [.int a1]) ok_X5_isThing ml_X5_124 (okM (by decide)) dX5_hints_1 rfl rfl (Nat.le_of_ble_eq_true rfl) h <|
 (kI (fun τ1 r2 h3 => x_if_eq (tgt := 14) dX5_hints_4 (by decide) (fun c4 => x_iconst dX5_hints_14 ic_m1 <|
 x_ireturn rfl dX5_hints_15 ⟨_, rfl, (h3.1 c4)⟩) (fun c4 => x_iload_n dX5_hints_7 rfl <|
 x_callS (As := [.int a2]) ok_X5_isDay ml_X5_160 (okM (by decide)) dX5_hints_8 rfl rfl (Nat.le_of_ble_eq_true rfl) (h3.2 c4) <|
 (kI (fun τ5 r6 h7 => x_if_ne (tgt := 16) dX5_hints_11 (by decide) (fun c8 => x_aload_n dX5_hints_16 rfl <|
 x_iload_n dX5_hints_17 rfl <|
 x_iload_n dX5_hints_18 rfl <|
 x_iconst dX5_hints_19 ic_1 <|
 x_callV (b := 0) (As := [.int a1, .int a2, .int (1 : Int32)]) ok_X5_fewestChosen ml_X5_163 (okM (by decide)) dX5_hints_20 rfl rfl (Nat.le_of_ble_eq_true rfl) rfl rfl rfl (h7.1 c8) <|
 (kI (fun τ9 r10 h11 => x_ireturn rfl dX5_hints_23 ⟨_, rfl, h11⟩))) (fun c8 => x_iconst dX5_hints_14 ic_m1 <|
 x_ireturn rfl dX5_hints_15 ⟨_, rfl, (h7.2 c8)⟩))))))
set_option maxRecDepth 100000 in
set_option maxHeartbeats 4000000 in
theorem M_X5_hinder {E : EV} {Q : Sg → Int32 → Prop} {σ : Sg} {a1 : Int32} {a2 : Int32} (h : MetI E mi_X5_isThing [.int a1] σ (fun τ1 r2 => ((r2 = 0) → Q τ1 (-1 : Int32)) ∧ ((¬ r2 = 0) → MetI E mi_X5_isDay [.int a2] τ1 (fun τ5 r6 => ((¬ r6 = 0) → MetI E mi_X5_fewestChosen [.ref 0, .int a1, .int a2, .int (0 : Int32)] τ5 (fun τ9 r10 => Q τ9 r10)) ∧ ((r6 = 0) → Q τ5 (-1 : Int32)))))) : MetI E mi_X5_hinder [.ref 0, .int a1, .int a2] σ Q :=
 met_of (L := [some (.ref 0), some (.int a1), some (.int a2)]) pn_X5 rfl (Nat.le_of_ble_eq_true rfl) <|
 x_iload_n dX5_hinder_0 rfl <|
 x_callS (As := [.int a1]) ok_X5_isThing ml_X5_124 (okM (by decide)) dX5_hinder_1 rfl rfl (Nat.le_of_ble_eq_true rfl) h <|
 (kI (fun τ1 r2 h3 => x_if_eq (tgt := 14) dX5_hinder_4 (by decide) (fun c4 => x_iconst dX5_hinder_14 ic_m1 <|
 x_ireturn rfl dX5_hinder_15 ⟨_, rfl, (h3.1 c4)⟩) (fun c4 => x_iload_n dX5_hinder_7 rfl <|
 x_callS (As := [.int a2]) ok_X5_isDay ml_X5_160 (okM (by decide)) dX5_hinder_8 rfl rfl (Nat.le_of_ble_eq_true rfl) (h3.2 c4) <|
 (kI (fun τ5 r6 h7 => x_if_ne (tgt := 16) dX5_hinder_11 (by decide) (fun c8 => x_aload_n dX5_hinder_16 rfl <|
 x_iload_n dX5_hinder_17 rfl <|
 x_iload_n dX5_hinder_18 rfl <|
 x_iconst dX5_hinder_19 ic_0 <|
 x_callV (b := 0) (As := [.int a1, .int a2, .int (0 : Int32)]) ok_X5_fewestChosen ml_X5_163 (okM (by decide)) dX5_hinder_20 rfl rfl (Nat.le_of_ble_eq_true rfl) rfl rfl rfl (h7.1 c8) <|
 (kI (fun τ9 r10 h11 => x_ireturn rfl dX5_hinder_23 ⟨_, rfl, h11⟩))) (fun c8 => x_iconst dX5_hinder_14 ic_m1 <|
 x_ireturn rfl dX5_hinder_15 ⟨_, rfl, (h7.2 c8)⟩))))))
set_option maxRecDepth 100000 in
set_option maxHeartbeats 4000000 in
theorem M_X5_turns {E : EV} {Q : Sg → Int32 → Prop} {σ : Sg} {a1 : Int32} {a2 : Int32} {a3 : Int32} (h : MetI E mi_X5_isThing [.int a1] σ (fun τ1 r2 => ((r2 = 0) → Q τ1 (-1 : Int32)) ∧ ((¬ r2 = 0) → MetI E mi_X5_isDay [.int a2] τ1 (fun τ5 r6 => ((r6 = 0) → Q τ5 (-1 : Int32)) ∧ ((¬ r6 = 0) → ((a3 < (1 : Int32)) → Q τ5 (-1 : Int32)) ∧ ((¬ a3 < (1 : Int32)) → ((a3 ≤ (2 : Int32)) → MetV E mi_X5_tellAhead [.ref 0, .int a1, .int a2] τ5 (fun τ11 => MetI E mi_X0_firstFrom [.ref 5, .int a2] τ11 (fun τ13 r14 => MetI E (mi_X5_isLawByTurns 4) [.ref 0, .int ((2 : Int32) * a3), .int r14] τ13 (fun τ16 r17 => ((r17 = 0) → Q τ16 (0 : Int32)) ∧ ((¬ r17 = 0) → Q τ16 (1 : Int32)))))) ∧ ((¬ a3 ≤ (2 : Int32)) → Q τ5 (-1 : Int32)))))))) : MetI E mi_X5_turns [.ref 0, .int a1, .int a2, .int a3] σ Q :=
 met_of (L := [some (.ref 0), some (.int a1), some (.int a2), some (.int a3)]) pn_X5 rfl (Nat.le_of_ble_eq_true rfl) <|
 x_iload_n dX5_turns_0 rfl <|
 x_callS (As := [.int a1]) ok_X5_isThing ml_X5_124 (okM (by decide)) dX5_turns_1 rfl rfl (Nat.le_of_ble_eq_true rfl) h <|
 (kI (fun τ1 r2 h3 => x_if_eq (tgt := 24) dX5_turns_4 (by decide) (fun c4 => x_iconst dX5_turns_24 ic_m1 <|
 x_ireturn rfl dX5_turns_25 ⟨_, rfl, (h3.1 c4)⟩) (fun c4 => x_iload_n dX5_turns_7 rfl <|
 x_callS (As := [.int a2]) ok_X5_isDay ml_X5_160 (okM (by decide)) dX5_turns_8 rfl rfl (Nat.le_of_ble_eq_true rfl) (h3.2 c4) <|
 (kI (fun τ5 r6 h7 => x_if_eq (tgt := 24) dX5_turns_11 (by decide) (fun c8 => x_iconst dX5_turns_24 ic_m1 <|
 x_ireturn rfl dX5_turns_25 ⟨_, rfl, (h7.1 c8)⟩) (fun c8 => x_iload_n dX5_turns_14 rfl <|
 x_iconst dX5_turns_15 ic_1 <|
 x_icmp_lt (tgt := 24) dX5_turns_16 (by decide) (fun c9 => x_iconst dX5_turns_24 ic_m1 <|
 x_ireturn rfl dX5_turns_25 ⟨_, rfl, ((h7.2 c8).1 c9)⟩) (fun c9 => x_iload_n dX5_turns_19 rfl <|
 x_iconst dX5_turns_20 ic_2 <|
 x_icmp_le (tgt := 26) dX5_turns_21 (by decide) (fun c10 => x_aload_n dX5_turns_26 rfl <|
 x_iload_n dX5_turns_27 rfl <|
 x_iload_n dX5_turns_28 rfl <|
 x_callV (b := 0) (As := [.int a1, .int a2]) ok_X5_tellAhead ml_X5_167 (okM (by decide)) dX5_turns_29 rfl rfl (Nat.le_of_ble_eq_true rfl) rfl rfl rfl (((h7.2 c8).2 c9).1 c10) <|
 (kV (fun τ11 h12 => x_aload_n dX5_turns_32 rfl <|
 x_iconst dX5_turns_33 ic_2 <|
 x_iload_n dX5_turns_34 rfl <|
 x_imul dX5_turns_35 <|
 x_aload_n dX5_turns_36 rfl <|
 x_getf (v := .ref 5) fl_X5_26 rfl rfl rfl dX5_turns_37 <|
 x_iload_n dX5_turns_40 rfl <|
 x_callV (b := 5) (As := [.int a2]) ok_X0_firstFrom ml_X5_170 (okM (by decide)) dX5_turns_41 rfl rfl (Nat.le_of_ble_eq_true rfl) rfl rfl rfl h12 <|
 (kI (fun τ13 r14 h15 => x_callV (b := 0) (As := [.int ((2 : Int32) * a3), .int r14]) (ok_X5_isLawByTurns 4) ml_X5_173 (okM (by decide)) dX5_turns_44 rfl rfl (Nat.le_of_ble_eq_true rfl) rfl rfl rfl h15 <|
 (kI (fun τ16 r17 h18 => x_if_eq (tgt := 54) dX5_turns_47 (by decide) (fun c19 => x_iconst dX5_turns_54 ic_0 <|
 x_ireturn rfl dX5_turns_55 ⟨_, rfl, (h18.1 c19)⟩) (fun c19 => x_iconst dX5_turns_50 ic_1 <|
 x_goto (tgt := 55) dX5_turns_51 (by decide) <|
 x_ireturn rfl dX5_turns_55 ⟨_, rfl, (h18.2 c19)⟩)))))))) (fun c10 => x_iconst dX5_turns_24 ic_m1 <|
 x_ireturn rfl dX5_turns_25 ⟨_, rfl, (((h7.2 c8).2 c9).2 c10)⟩))))))))
def K_X5_thingsHadAt_16 (E : EV) (Q : Sg → Int32 → Prop) (σ : Sg) (v1 : Int32) (v2 : Int32) (v3 : Int32) (v4 : Int32) (v5 : Int32) (v6 : Int32) : Prop := J E mi_X5_thingsHadAt (tgM E mi_X5_thingsHadAt (qI Q)) 16 [some (.ref 0), some (.int v1), some (.int v2), some (.int v3), some (.int v4), some (.int v5), some (.int v6)] [] σ
set_option maxRecDepth 100000 in
set_option maxHeartbeats 4000000 in
theorem B_X5_thingsHadAt_16 {E : EV} {Q : Sg → Int32 → Prop} {σ : Sg} {v1 : Int32} {v2 : Int32} {v3 : Int32} {v4 : Int32} {v5 : Int32} {v6 : Int32} (h : (((4 : Int32) ≤ v6) → Q σ v4) ∧ ((¬ (4 : Int32) ≤ v6) → MetV E mi_X3_begin [.ref 36, .ref 3, .int v6] σ (fun τ2 => MetV E mi_X3_play [.ref 36, .ref 5, .int (0 : Int32), .int v5, .int (0 : Int32)] τ2 (fun τ4 => MetV E mi_X3_stay [.ref 36, .int v1, .int v3] τ4 (fun τ6 => MetV E mi_X3_play [.ref 36, .ref 5, .int v5, .int (gi τ6 505), .int (0 : Int32)] τ6 (fun τ8 => vp_in v1 8 ∧ ((((gm τ8 38) v1.toNatClampNeg) = 0) → K_X5_thingsHadAt_16 E Q τ8 v1 v2 v3 v4 v5 (v6 + 1)) ∧ ((¬ ((gm τ8 38) v1.toNatClampNeg) = 0) → K_X5_thingsHadAt_16 E Q τ8 v1 v2 v3 (v4 + 1) v5 (v6 + 1)))))))) : K_X5_thingsHadAt_16 E Q σ v1 v2 v3 v4 v5 v6 :=
 x_iload dX5_thingsHadAt_16 rfl <|
 x_iconst dX5_thingsHadAt_18 ic_4 <|
 x_icmp_ge (tgt := 101) dX5_thingsHadAt_19 (by decide) (fun c1 => x_iload dX5_thingsHadAt_101 rfl <|
 x_ireturn rfl dX5_thingsHadAt_103 ⟨_, rfl, (h.1 c1)⟩) (fun c1 => x_aload_n dX5_thingsHadAt_22 rfl <|
 x_getf (v := .ref 36) fl_X5_59 rfl rfl rfl dX5_thingsHadAt_23 <|
 x_aload_n dX5_thingsHadAt_26 rfl <|
 x_getf (v := .ref 3) fl_X5_19 rfl rfl rfl dX5_thingsHadAt_27 <|
 x_iload dX5_thingsHadAt_30 rfl <|
 x_callV (b := 36) (As := [.ref 3, .int v6]) ok_X3_begin ml_X5_226 (okM (by decide)) dX5_thingsHadAt_32 rfl rfl (Nat.le_of_ble_eq_true rfl) rfl rfl rfl (h.2 c1) <|
 (kV (fun τ2 h3 => x_aload_n dX5_thingsHadAt_35 rfl <|
 x_getf (v := .ref 36) fl_X5_59 rfl rfl rfl dX5_thingsHadAt_36 <|
 x_aload_n dX5_thingsHadAt_39 rfl <|
 x_getf (v := .ref 5) fl_X5_26 rfl rfl rfl dX5_thingsHadAt_40 <|
 x_iconst dX5_thingsHadAt_43 ic_0 <|
 x_iload dX5_thingsHadAt_44 rfl <|
 x_iconst dX5_thingsHadAt_46 ic_0 <|
 x_callV (b := 36) (As := [.ref 5, .int (0 : Int32), .int v5, .int (0 : Int32)]) ok_X3_play ml_X5_230 (okM (by decide)) dX5_thingsHadAt_47 rfl rfl (Nat.le_of_ble_eq_true rfl) rfl rfl rfl h3 <|
 (kV (fun τ4 h5 => x_aload_n dX5_thingsHadAt_50 rfl <|
 x_getf (v := .ref 36) fl_X5_59 rfl rfl rfl dX5_thingsHadAt_51 <|
 x_iload_n dX5_thingsHadAt_54 rfl <|
 x_iload_n dX5_thingsHadAt_55 rfl <|
 x_callV (b := 36) (As := [.int v1, .int v3]) ok_X3_stay ml_X5_250 (okM (by decide)) dX5_thingsHadAt_56 rfl rfl (Nat.le_of_ble_eq_true rfl) rfl rfl rfl h5 <|
 (kV (fun τ6 h7 => x_aload_n dX5_thingsHadAt_59 rfl <|
 x_getf (v := .ref 36) fl_X5_59 rfl rfl rfl dX5_thingsHadAt_60 <|
 x_aload_n dX5_thingsHadAt_63 rfl <|
 x_getf (v := .ref 5) fl_X5_26 rfl rfl rfl dX5_thingsHadAt_64 <|
 x_iload dX5_thingsHadAt_67 rfl <|
 x_aload_n dX5_thingsHadAt_69 rfl <|
 x_getf (v := .ref 5) fl_X5_26 rfl rfl rfl dX5_thingsHadAt_70 <|
 x_getf (v := .int (gi τ6 505)) fl_X5_90 rfl rfl rfl dX5_thingsHadAt_73 <|
 x_iconst dX5_thingsHadAt_76 ic_0 <|
 x_callV (b := 36) (As := [.ref 5, .int v5, .int (gi τ6 505), .int (0 : Int32)]) ok_X3_play ml_X5_230 (okM (by decide)) dX5_thingsHadAt_77 rfl rfl (Nat.le_of_ble_eq_true rfl) rfl rfl rfl h7 <|
 (kV (fun τ8 h9 => x_aload_n dX5_thingsHadAt_80 rfl <|
 x_getf (v := .ref 36) fl_X5_59 rfl rfl rfl dX5_thingsHadAt_81 <|
 x_getf (v := .ref 38) fl_X5_131 rfl rfl rfl dX5_thingsHadAt_84 <|
 x_iload_n dX5_thingsHadAt_87 rfl <|
 x_iaload (v := ((gm τ8 38) v1.toNatClampNeg)) rfl h9.1 rfl dX5_thingsHadAt_88 <|
 x_if_eq (tgt := 95) dX5_thingsHadAt_89 (by decide) (fun c10 => x_iinc (v := (v6 + 1)) (L2 := [some (.ref 0), some (.int v1), some (.int v2), some (.int v3), some (.int v4), some (.int v5), some (.int (v6 + 1))]) dX5_thingsHadAt_95 rfl (by rw [show Int32.ofInt (1) = 1 by decide]) rfl (Nat.le_of_ble_eq_true rfl) <|
 x_goto (tgt := 16) dX5_thingsHadAt_98 (by decide) <|
 (h9.2.1 c10)) (fun c10 => x_iinc (v := (v4 + 1)) (L2 := [some (.ref 0), some (.int v1), some (.int v2), some (.int v3), some (.int (v4 + 1)), some (.int v5), some (.int v6)]) dX5_thingsHadAt_92 rfl (by rw [show Int32.ofInt (1) = 1 by decide]) rfl (Nat.le_of_ble_eq_true rfl) <|
 x_iinc (v := (v6 + 1)) (L2 := [some (.ref 0), some (.int v1), some (.int v2), some (.int v3), some (.int (v4 + 1)), some (.int v5), some (.int (v6 + 1))]) dX5_thingsHadAt_95 rfl (by rw [show Int32.ofInt (1) = 1 by decide]) rfl (Nat.le_of_ble_eq_true rfl) <|
 x_goto (tgt := 16) dX5_thingsHadAt_98 (by decide) <|
 (h9.2.2 c10)))))))))))
set_option maxRecDepth 100000 in
set_option maxHeartbeats 4000000 in
theorem M_X5_thingsHadAt {E : EV} {Q : Sg → Int32 → Prop} {σ : Sg} {a1 : Int32} {a2 : Int32} {a3 : Int32} (h : MetI E mi_X0_firstFrom [.ref 5, .int a2] σ (fun τ1 r2 => K_X5_thingsHadAt_16 E Q τ1 a1 a2 a3 (0 : Int32) r2 (0 : Int32))) : MetI E mi_X5_thingsHadAt [.ref 0, .int a1, .int a2, .int a3] σ Q :=
 met_of (L := [some (.ref 0), some (.int a1), some (.int a2), some (.int a3), none, none, none]) pn_X5 rfl (Nat.le_of_ble_eq_true rfl) <|
 x_iconst dX5_thingsHadAt_0 ic_0 <|
 x_istore (L2 := [some (.ref 0), some (.int a1), some (.int a2), some (.int a3), some (.int (0 : Int32)), none, none]) dX5_thingsHadAt_1 rfl (Nat.le_of_ble_eq_true rfl) <|
 x_aload_n dX5_thingsHadAt_3 rfl <|
 x_getf (v := .ref 5) fl_X5_26 rfl rfl rfl dX5_thingsHadAt_4 <|
 x_iload_n dX5_thingsHadAt_7 rfl <|
 x_callV (b := 5) (As := [.int a2]) ok_X0_firstFrom ml_X5_170 (okM (by decide)) dX5_thingsHadAt_8 rfl rfl (Nat.le_of_ble_eq_true rfl) rfl rfl rfl h <|
 (kI (fun τ1 r2 h3 => x_istore (L2 := [some (.ref 0), some (.int a1), some (.int a2), some (.int a3), some (.int (0 : Int32)), some (.int r2), none]) dX5_thingsHadAt_11 rfl (Nat.le_of_ble_eq_true rfl) <|
 x_iconst dX5_thingsHadAt_13 ic_0 <|
 x_istore (L2 := [some (.ref 0), some (.int a1), some (.int a2), some (.int a3), some (.int (0 : Int32)), some (.int r2), some (.int (0 : Int32))]) dX5_thingsHadAt_14 rfl (Nat.le_of_ble_eq_true rfl) <|
 h3))
def K_X5_keepAt_28 (E : EV) (Q : Sg → Int32 → Prop) (σ : Sg) (v1 : Int32) (v2 : Int32) (v3 : Int32) (v4 : Int32) (v5 : Int32) : Prop := J E mi_X5_keepAt (tgM E mi_X5_keepAt (qI Q)) 28 [some (.ref 0), some (.int v1), some (.int v2), some (.int v3), some (.int v4), some (.int v5), none] [] σ
set_option maxRecDepth 100000 in
set_option maxHeartbeats 4000000 in
theorem B_X5_keepAt_28 {E : EV} {Q : Sg → Int32 → Prop} {σ : Sg} {v1 : Int32} {v2 : Int32} {v3 : Int32} {v4 : Int32} {v5 : Int32} (h : (((4 : Int32) ≤ v5) → Q σ v3) ∧ ((¬ (4 : Int32) ≤ v5) → MetI E mi_X5_thingsHadAt [.ref 0, .int v1, .int v2, .int v5] σ (fun τ2 r3 => ((v4 ≤ r3) → K_X5_keepAt_28 E Q τ2 v1 v2 v3 v4 (v5 + 1)) ∧ ((¬ v4 ≤ r3) → K_X5_keepAt_28 E Q τ2 v1 v2 v5 r3 (v5 + 1))))) : K_X5_keepAt_28 E Q σ v1 v2 v3 v4 v5 :=
 x_iload dX5_keepAt_28 rfl <|
 x_iconst dX5_keepAt_30 ic_4 <|
 x_icmp_ge (tgt := 64) dX5_keepAt_31 (by decide) (fun c1 => x_iload_n dX5_keepAt_64 rfl <|
 x_ireturn rfl dX5_keepAt_65 ⟨_, rfl, (h.1 c1)⟩) (fun c1 => x_aload_n dX5_keepAt_34 rfl <|
 x_iload_n dX5_keepAt_35 rfl <|
 x_iload_n dX5_keepAt_36 rfl <|
 x_iload dX5_keepAt_37 rfl <|
 x_callV (b := 0) (As := [.int v1, .int v2, .int v5]) ok_X5_thingsHadAt ml_X5_176 (okM (by decide)) dX5_keepAt_39 rfl rfl (Nat.le_of_ble_eq_true rfl) rfl rfl rfl (h.2 c1) <|
 (kI (fun τ2 r3 h4 => x_istore (L2 := [some (.ref 0), some (.int v1), some (.int v2), some (.int v3), some (.int v4), some (.int v5), some (.int r3)]) dX5_keepAt_42 rfl (Nat.le_of_ble_eq_true rfl) <|
 x_iload dX5_keepAt_44 rfl <|
 x_iload dX5_keepAt_46 rfl <|
 x_icmp_ge (tgt := 58) dX5_keepAt_48 (by decide) (fun c5 => x_iinc (v := (v5 + 1)) (L2 := [some (.ref 0), some (.int v1), some (.int v2), some (.int v3), some (.int v4), some (.int (v5 + 1)), some (.int r3)]) dX5_keepAt_58 rfl (by rw [show Int32.ofInt (1) = 1 by decide]) rfl (Nat.le_of_ble_eq_true rfl) <|
 x_goto (tgt := 28) dX5_keepAt_61 (by decide) <|
 x_sub (L2 := [some (.ref 0), some (.int v1), some (.int v2), some (.int v3), some (.int v4), some (.int (v5 + 1)), none]) ⟨rfl, rfl, rfl, rfl, rfl, rfl, trivial⟩ (h4.1 c5)) (fun c5 => x_iload dX5_keepAt_51 rfl <|
 x_istore (L2 := [some (.ref 0), some (.int v1), some (.int v2), some (.int v3), some (.int r3), some (.int v5), some (.int r3)]) dX5_keepAt_53 rfl (Nat.le_of_ble_eq_true rfl) <|
 x_iload dX5_keepAt_55 rfl <|
 x_istore_n (L2 := [some (.ref 0), some (.int v1), some (.int v2), some (.int v5), some (.int r3), some (.int v5), some (.int r3)]) dX5_keepAt_57 rfl (Nat.le_of_ble_eq_true rfl) <|
 x_iinc (v := (v5 + 1)) (L2 := [some (.ref 0), some (.int v1), some (.int v2), some (.int v5), some (.int r3), some (.int (v5 + 1)), some (.int r3)]) dX5_keepAt_58 rfl (by rw [show Int32.ofInt (1) = 1 by decide]) rfl (Nat.le_of_ble_eq_true rfl) <|
 x_goto (tgt := 28) dX5_keepAt_61 (by decide) <|
 x_sub (L2 := [some (.ref 0), some (.int v1), some (.int v2), some (.int v5), some (.int r3), some (.int (v5 + 1)), none]) ⟨rfl, rfl, rfl, rfl, rfl, rfl, trivial⟩ (h4.2 c5)))))
set_option maxRecDepth 100000 in
set_option maxHeartbeats 4000000 in
theorem M_X5_keepAt {E : EV} {Q : Sg → Int32 → Prop} {σ : Sg} {a1 : Int32} {a2 : Int32} (h : MetI E mi_X1_knows [.ref 3, .int a1] σ (fun τ1 r2 => ((r2 = 0) → Q τ1 (-1 : Int32)) ∧ ((¬ r2 = 0) → MetI E mi_X5_isDay [.int a2] τ1 (fun τ5 r6 => ((¬ r6 = 0) → K_X5_keepAt_28 E Q τ5 a1 a2 (0 : Int32) (5 : Int32) (0 : Int32)) ∧ ((r6 = 0) → Q τ5 (-1 : Int32)))))) : MetI E mi_X5_keepAt [.ref 0, .int a1, .int a2] σ Q :=
 met_of (L := [some (.ref 0), some (.int a1), some (.int a2), none, none, none, none]) pn_X5 rfl (Nat.le_of_ble_eq_true rfl) <|
 x_aload_n dX5_keepAt_0 rfl <|
 x_getf (v := .ref 3) fl_X5_19 rfl rfl rfl dX5_keepAt_1 <|
 x_iload_n dX5_keepAt_4 rfl <|
 x_callV (b := 3) (As := [.int a1]) ok_X1_knows ml_X5_104 (okM (by decide)) dX5_keepAt_5 rfl rfl (Nat.le_of_ble_eq_true rfl) rfl rfl rfl h <|
 (kI (fun τ1 r2 h3 => x_if_eq (tgt := 18) dX5_keepAt_8 (by decide) (fun c4 => x_iconst dX5_keepAt_18 ic_m1 <|
 x_ireturn rfl dX5_keepAt_19 ⟨_, rfl, (h3.1 c4)⟩) (fun c4 => x_iload_n dX5_keepAt_11 rfl <|
 x_callS (As := [.int a2]) ok_X5_isDay ml_X5_160 (okM (by decide)) dX5_keepAt_12 rfl rfl (Nat.le_of_ble_eq_true rfl) (h3.2 c4) <|
 (kI (fun τ5 r6 h7 => x_if_ne (tgt := 20) dX5_keepAt_15 (by decide) (fun c8 => x_iconst dX5_keepAt_20 ic_0 <|
 x_istore_n (L2 := [some (.ref 0), some (.int a1), some (.int a2), some (.int (0 : Int32)), none, none, none]) dX5_keepAt_21 rfl (Nat.le_of_ble_eq_true rfl) <|
 x_iconst dX5_keepAt_22 ic_5 <|
 x_istore (L2 := [some (.ref 0), some (.int a1), some (.int a2), some (.int (0 : Int32)), some (.int (5 : Int32)), none, none]) dX5_keepAt_23 rfl (Nat.le_of_ble_eq_true rfl) <|
 x_iconst dX5_keepAt_25 ic_0 <|
 x_istore (L2 := [some (.ref 0), some (.int a1), some (.int a2), some (.int (0 : Int32)), some (.int (5 : Int32)), some (.int (0 : Int32)), none]) dX5_keepAt_26 rfl (Nat.le_of_ble_eq_true rfl) <|
 (h7.1 c8)) (fun c8 => x_iconst dX5_keepAt_18 ic_m1 <|
 x_ireturn rfl dX5_keepAt_19 ⟨_, rfl, (h7.2 c8)⟩))))))
set_option maxRecDepth 100000 in
set_option maxHeartbeats 4000000 in
theorem M_X5_isShare {E : EV} {Q : Sg → Int32 → Prop} {σ : Sg} {a1 : Int32} {a2 : Int32} (h : ((a1 < 0) → Q σ (0 : Int32)) ∧ ((¬ a1 < 0) → ((a2 < (1 : Int32)) → Q σ (0 : Int32)) ∧ ((¬ a2 < (1 : Int32)) → (((9 : Int32) < a2) → Q σ (0 : Int32)) ∧ ((¬ (9 : Int32) < a2) → ((a2 < a1) → Q σ (0 : Int32)) ∧ ((¬ a2 < a1) → Q σ (1 : Int32)))))) : MetI E mi_X5_isShare [.int a1, .int a2] σ Q :=
 met_of (L := [some (.int a1), some (.int a2)]) pn_X5 rfl (Nat.le_of_ble_eq_true rfl) <|
 x_iload_n dX5_isShare_0 rfl <|
 x_if_lt (tgt := 24) dX5_isShare_1 (by decide) (fun c1 => x_iconst dX5_isShare_24 ic_0 <|
 x_zreturn rfl (Or.inl rfl) dX5_isShare_25 ⟨_, rfl, (h.1 c1)⟩) (fun c1 => x_iload_n dX5_isShare_4 rfl <|
 x_iconst dX5_isShare_5 ic_1 <|
 x_icmp_lt (tgt := 24) dX5_isShare_6 (by decide) (fun c2 => x_iconst dX5_isShare_24 ic_0 <|
 x_zreturn rfl (Or.inl rfl) dX5_isShare_25 ⟨_, rfl, ((h.2 c1).1 c2)⟩) (fun c2 => x_iload_n dX5_isShare_9 rfl <|
 x_bipush dX5_isShare_10 bp_9 <|
 x_icmp_gt (tgt := 24) dX5_isShare_12 (by decide) (fun c3 => x_iconst dX5_isShare_24 ic_0 <|
 x_zreturn rfl (Or.inl rfl) dX5_isShare_25 ⟨_, rfl, (((h.2 c1).2 c2).1 c3)⟩) (fun c3 => x_iload_n dX5_isShare_15 rfl <|
 x_iload_n dX5_isShare_16 rfl <|
 x_icmp_gt (tgt := 24) dX5_isShare_17 (by decide) (fun c4 => x_iconst dX5_isShare_24 ic_0 <|
 x_zreturn rfl (Or.inl rfl) dX5_isShare_25 ⟨_, rfl, ((((h.2 c1).2 c2).2 c3).1 c4)⟩) (fun c4 => x_iconst dX5_isShare_20 ic_1 <|
 x_goto (tgt := 25) dX5_isShare_21 (by decide) <|
 x_zreturn rfl (Or.inr rfl) dX5_isShare_25 ⟨_, rfl, ((((h.2 c1).2 c2).2 c3).2 c4)⟩))))
def K_X5_power_5 (E : EV) (Q : Sg → Int64 → Prop) (σ : Sg) (v0 : Int32) (v1 : Int32) (v2 : Int64) (v4 : Int32) : Prop := J E mi_X5_power (tgM E mi_X5_power (qL Q)) 5 [some (.int v0), some (.int v1), some (.long v2), none, some (.int v4)] [] σ
set_option maxRecDepth 100000 in
set_option maxHeartbeats 4000000 in
theorem B_X5_power_5 {E : EV} {Q : Sg → Int64 → Prop} {σ : Sg} {v0 : Int32} {v1 : Int32} {v2 : Int64} {v4 : Int32} (h : ((v1 ≤ v4) → Q σ v2) ∧ ((¬ v1 ≤ v4) → K_X5_power_5 E Q σ v0 v1 (v2 * (v0.toInt64)) (v4 + 1))) : K_X5_power_5 E Q σ v0 v1 v2 v4 :=
 x_iload dX5_power_5 rfl <|
 x_iload_n dX5_power_7 rfl <|
 x_icmp_ge (tgt := 22) dX5_power_8 (by decide) (fun c1 => x_lload_n dX5_power_22 rfl <|
 x_lreturn rfl dX5_power_23 ⟨_, rfl, (h.1 c1)⟩) (fun c1 => x_lload_n dX5_power_11 rfl <|
 x_iload_n dX5_power_12 rfl <|
 x_i2l dX5_power_13 <|
 x_lmul dX5_power_14 <|
 x_lstore_n (L2 := [some (.int v0), some (.int v1), some (.long (v2 * (v0.toInt64))), none, some (.int v4)]) dX5_power_15 rfl (Nat.le_of_ble_eq_true rfl) <|
 x_iinc (v := (v4 + 1)) (L2 := [some (.int v0), some (.int v1), some (.long (v2 * (v0.toInt64))), none, some (.int (v4 + 1))]) dX5_power_16 rfl (by rw [show Int32.ofInt (1) = 1 by decide]) rfl (Nat.le_of_ble_eq_true rfl) <|
 x_goto (tgt := 5) dX5_power_19 (by decide) <|
 (h.2 c1))
set_option maxRecDepth 100000 in
set_option maxHeartbeats 4000000 in
theorem M_X5_power {E : EV} {Q : Sg → Int64 → Prop} {σ : Sg} {a1 : Int32} {a2 : Int32} (h : K_X5_power_5 E Q σ a1 a2 (1 : Int64) (0 : Int32)) : MetL E mi_X5_power [.int a1, .int a2] σ Q :=
 met_of (L := [some (.int a1), some (.int a2), none, none, none]) pn_X5 rfl (Nat.le_of_ble_eq_true rfl) <|
 x_lconst dX5_power_0 lc_1 <|
 x_lstore_n (L2 := [some (.int a1), some (.int a2), some (.long (1 : Int64)), none, none]) dX5_power_1 rfl (Nat.le_of_ble_eq_true rfl) <|
 x_iconst dX5_power_2 ic_0 <|
 x_istore (L2 := [some (.int a1), some (.int a2), some (.long (1 : Int64)), none, some (.int (0 : Int32))]) dX5_power_3 rfl (Nat.le_of_ble_eq_true rfl) <|
 h
def K_X5_commonDivisor_9 (E : EV) (Q : Sg → Int64 → Prop) (σ : Sg) (v0 : Int64) (v2 : Int64) (v4 : Int64) (v6 : Int64) (v8 : Int32) : Prop := J E mi_X5_commonDivisor (tgM E mi_X5_commonDivisor (qL Q)) 9 [some (.long v0), none, some (.long v2), none, some (.long v4), none, some (.long v6), none, some (.int v8), none, none] [] σ
set_option maxRecDepth 100000 in
set_option maxHeartbeats 4000000 in
theorem B_X5_commonDivisor_9 {E : EV} {Q : Sg → Int64 → Prop} {σ : Sg} {v0 : Int64} {v2 : Int64} {v4 : Int64} {v6 : Int64} {v8 : Int32} (h : (((100 : Int32) ≤ v8) → Q σ v4) ∧ ((¬ (100 : Int32) ≤ v8) → (((lg_cmp v6 (0 : Int64)) ≤ 0) → Q σ v4) ∧ ((¬ (lg_cmp v6 (0 : Int64)) ≤ 0) → ¬ v6 = 0 ∧ K_X5_commonDivisor_9 E Q σ v0 v2 v6 (v4 - v4 / v6 * v6) (v8 + 1)))) : K_X5_commonDivisor_9 E Q σ v0 v2 v4 v6 v8 :=
 x_iload dX5_commonDivisor_9 rfl <|
 x_bipush dX5_commonDivisor_11 bp_100 <|
 x_icmp_ge (tgt := 44) dX5_commonDivisor_13 (by decide) (fun c1 => x_lload dX5_commonDivisor_44 rfl <|
 x_lreturn rfl dX5_commonDivisor_46 ⟨_, rfl, (h.1 c1)⟩) (fun c1 => x_lload dX5_commonDivisor_16 rfl <|
 x_lconst dX5_commonDivisor_18 lc_0 <|
 x_lcmp dX5_commonDivisor_19 <|
 x_if_le (tgt := 44) dX5_commonDivisor_20 (by decide) (fun c2 => x_lload dX5_commonDivisor_44 rfl <|
 x_lreturn rfl dX5_commonDivisor_46 ⟨_, rfl, ((h.2 c1).1 c2)⟩) (fun c2 => x_lload dX5_commonDivisor_23 rfl <|
 x_lload dX5_commonDivisor_25 rfl <|
 x_lrem dX5_commonDivisor_27 ((h.2 c1).2 c2).1 <|
 x_lstore (L2 := [some (.long v0), none, some (.long v2), none, some (.long v4), none, some (.long v6), none, some (.int v8), some (.long (v4 - v4 / v6 * v6)), none]) dX5_commonDivisor_28 rfl (Nat.le_of_ble_eq_true rfl) <|
 x_lload dX5_commonDivisor_30 rfl <|
 x_lstore (L2 := [some (.long v0), none, some (.long v2), none, some (.long v6), none, some (.long v6), none, some (.int v8), some (.long (v4 - v4 / v6 * v6)), none]) dX5_commonDivisor_32 rfl (Nat.le_of_ble_eq_true rfl) <|
 x_lload dX5_commonDivisor_34 rfl <|
 x_lstore (L2 := [some (.long v0), none, some (.long v2), none, some (.long v6), none, some (.long (v4 - v4 / v6 * v6)), none, some (.int v8), some (.long (v4 - v4 / v6 * v6)), none]) dX5_commonDivisor_36 rfl (Nat.le_of_ble_eq_true rfl) <|
 x_iinc (v := (v8 + 1)) (L2 := [some (.long v0), none, some (.long v2), none, some (.long v6), none, some (.long (v4 - v4 / v6 * v6)), none, some (.int (v8 + 1)), some (.long (v4 - v4 / v6 * v6)), none]) dX5_commonDivisor_38 rfl (by rw [show Int32.ofInt (1) = 1 by decide]) rfl (Nat.le_of_ble_eq_true rfl) <|
 x_goto (tgt := 9) dX5_commonDivisor_41 (by decide) <|
 x_sub (L2 := [some (.long v0), none, some (.long v2), none, some (.long v6), none, some (.long (v4 - v4 / v6 * v6)), none, some (.int (v8 + 1)), none, none]) ⟨rfl, rfl, rfl, rfl, rfl, trivial⟩ ((h.2 c1).2 c2).2))
set_option maxRecDepth 100000 in
set_option maxHeartbeats 4000000 in
theorem M_X5_commonDivisor {E : EV} {Q : Sg → Int64 → Prop} {σ : Sg} {a1 : Int64} {a2 : Int64} (h : K_X5_commonDivisor_9 E Q σ a1 a2 a1 a2 (0 : Int32)) : MetL E mi_X5_commonDivisor [.long a1, .long a2] σ Q :=
 met_of (L := [some (.long a1), none, some (.long a2), none, none, none, none, none, none, none, none]) pn_X5 rfl (Nat.le_of_ble_eq_true rfl) <|
 x_lload_n dX5_commonDivisor_0 rfl <|
 x_lstore (L2 := [some (.long a1), none, some (.long a2), none, some (.long a1), none, none, none, none, none, none]) dX5_commonDivisor_1 rfl (Nat.le_of_ble_eq_true rfl) <|
 x_lload_n dX5_commonDivisor_3 rfl <|
 x_lstore (L2 := [some (.long a1), none, some (.long a2), none, some (.long a1), none, some (.long a2), none, none, none, none]) dX5_commonDivisor_4 rfl (Nat.le_of_ble_eq_true rfl) <|
 x_iconst dX5_commonDivisor_6 ic_0 <|
 x_istore (L2 := [some (.long a1), none, some (.long a2), none, some (.long a1), none, some (.long a2), none, some (.int (0 : Int32)), none, none]) dX5_commonDivisor_7 rfl (Nat.le_of_ble_eq_true rfl) <|
 h
def K_X5_chance_69 (E : EV) (Q : Sg → Int64 → Prop) (σ : Sg) (v1 : Int32) (v2 : Int32) (v3 : Int32) (v4 : Int32) (v5 : Int32) (v6 : Int32) (v7 : Int32) (v8 : Int64) (v10 : Int32) : Prop := J E mi_X5_chance (tgM E mi_X5_chance (qL Q)) 69 [some (.ref 0), some (.int v1), some (.int v2), some (.int v3), some (.int v4), some (.int v5), some (.int v6), some (.int v7), some (.long v8), none, some (.int v10), none, none, none, none, none] [] σ
set_option maxRecDepth 100000 in
set_option maxHeartbeats 4000000 in
theorem B_X5_chance_69 {E : EV} {Q : Sg → Int64 → Prop} {σ : Sg} {v1 : Int32} {v2 : Int32} {v3 : Int32} {v4 : Int32} {v5 : Int32} {v6 : Int32} {v7 : Int32} {v8 : Int64} {v10 : Int32} (h : ((v6 < v10) → MetI E mi_J6_bitCount_0f7a4 [.int v6] σ (fun τ2 r3 => MetL E mi_X5_power [.int v4, .int r3] τ2 (fun τ5 r6 => MetL E mi_X5_commonDivisor [.long v8, .long r6] τ5 (fun τ8 r9 => ((¬ v5 = 0) → (((lg_cmp r9 (0 : Int64)) ≤ 0) → Q τ8 r6) ∧ ((¬ (lg_cmp r9 (0 : Int64)) ≤ 0) → ¬ r9 = 0 ∧ Q τ8 (r6 / r9))) ∧ ((v5 = 0) → (((lg_cmp r9 (0 : Int64)) ≤ 0) → Q τ8 v8) ∧ ((¬ (lg_cmp r9 (0 : Int64)) ≤ 0) → ¬ r9 = 0 ∧ Q τ8 (v8 / r9))))))) ∧ ((¬ v6 < v10) → ((¬ (v10 &&& (v6 ^^^ (-1 : Int32))) = 0) → K_X5_chance_69 E Q σ v1 v2 v3 v4 v5 v6 v7 v8 (v10 + 1)) ∧ (((v10 &&& (v6 ^^^ (-1 : Int32))) = 0) → MetI E mi_X5_isLawIf [.ref 0, .int v10, .int (1 : Int32), .int v7] σ (fun τ15 r16 => ((r16 = 0) → K_X5_chance_69 E Q τ15 v1 v2 v3 v4 v5 v6 v7 v8 (v10 + 1)) ∧ ((¬ r16 = 0) → MetI E mi_J6_bitCount_0f7a4 [.int v10] τ15 (fun τ19 r20 => MetL E mi_X5_power [.int v3, .int r20] τ19 (fun τ22 r23 => MetI E mi_J6_bitCount_0f7a4 [.int (v6 &&& (v10 ^^^ (-1 : Int32)))] τ22 (fun τ25 r26 => MetL E mi_X5_power [.int (v4 - v3), .int r26] τ25 (fun τ28 r29 => K_X5_chance_69 E Q τ28 v1 v2 v3 v4 v5 v6 v7 (v8 + (r23 * r29)) (v10 + 1)))))))))) : K_X5_chance_69 E Q σ v1 v2 v3 v4 v5 v6 v7 v8 v10 :=
 x_iload dX5_chance_69 rfl <|
 x_iload dX5_chance_71 rfl <|
 x_icmp_gt (tgt := 136) dX5_chance_73 (by decide) (fun c1 => x_iload dX5_chance_136 rfl <|
 x_iload dX5_chance_138 rfl <|
 x_callS (As := [.int v6]) ok_J6_bitCount_0f7a4 ml_X5_192 (okM (by decide)) dX5_chance_140 rfl rfl (Nat.le_of_ble_eq_true rfl) (h.1 c1) <|
 (kI (fun τ2 r3 h4 => x_callS (As := [.int v4, .int r3]) ok_X5_power ml_X5_197 (okM (by decide)) dX5_chance_143 rfl rfl (Nat.le_of_ble_eq_true rfl) h4 <|
 (kL (fun τ5 r6 h7 => x_lstore (L2 := [some (.ref 0), some (.int v1), some (.int v2), some (.int v3), some (.int v4), some (.int v5), some (.int v6), some (.int v7), some (.long v8), none, some (.long r6), none, none, none, none, none]) dX5_chance_146 rfl (Nat.le_of_ble_eq_true rfl) <|
 x_lload dX5_chance_148 rfl <|
 x_lload dX5_chance_150 rfl <|
 x_callS (As := [.long v8, .long r6]) ok_X5_commonDivisor ml_X5_201 (okM (by decide)) dX5_chance_152 rfl rfl (Nat.le_of_ble_eq_true rfl) h7 <|
 (kL (fun τ8 r9 h10 => x_lstore (L2 := [some (.ref 0), some (.int v1), some (.int v2), some (.int v3), some (.int v4), some (.int v5), some (.int v6), some (.int v7), some (.long v8), none, some (.long r6), none, some (.long r9), none, none, none]) dX5_chance_155 rfl (Nat.le_of_ble_eq_true rfl) <|
 x_iload dX5_chance_157 rfl <|
 x_if_ne (tgt := 167) dX5_chance_159 (by decide) (fun c11 => x_lload dX5_chance_167 rfl <|
 x_lstore (L2 := [some (.ref 0), some (.int v1), some (.int v2), some (.int v3), some (.int v4), some (.int v5), some (.int v6), some (.int v7), some (.long v8), none, some (.long r6), none, some (.long r9), none, some (.long r6), none]) dX5_chance_169 rfl (Nat.le_of_ble_eq_true rfl) <|
 x_lload dX5_chance_171 rfl <|
 x_lconst dX5_chance_173 lc_0 <|
 x_lcmp dX5_chance_174 <|
 x_if_le (tgt := 186) dX5_chance_175 (by decide) (fun c12 => x_lload dX5_chance_186 rfl <|
 x_lreturn rfl dX5_chance_188 ⟨_, rfl, ((h10.1 c11).1 c12)⟩) (fun c12 => x_lload dX5_chance_178 rfl <|
 x_lload dX5_chance_180 rfl <|
 x_ldiv dX5_chance_182 ((h10.1 c11).2 c12).1 <|
 x_goto (tgt := 188) dX5_chance_183 (by decide) <|
 x_lreturn rfl dX5_chance_188 ⟨_, rfl, ((h10.1 c11).2 c12).2⟩)) (fun c11 => x_lload dX5_chance_162 rfl <|
 x_goto (tgt := 169) dX5_chance_164 (by decide) <|
 x_lstore (L2 := [some (.ref 0), some (.int v1), some (.int v2), some (.int v3), some (.int v4), some (.int v5), some (.int v6), some (.int v7), some (.long v8), none, some (.long r6), none, some (.long r9), none, some (.long v8), none]) dX5_chance_169 rfl (Nat.le_of_ble_eq_true rfl) <|
 x_lload dX5_chance_171 rfl <|
 x_lconst dX5_chance_173 lc_0 <|
 x_lcmp dX5_chance_174 <|
 x_if_le (tgt := 186) dX5_chance_175 (by decide) (fun c13 => x_lload dX5_chance_186 rfl <|
 x_lreturn rfl dX5_chance_188 ⟨_, rfl, ((h10.2 c11).1 c13)⟩) (fun c13 => x_lload dX5_chance_178 rfl <|
 x_lload dX5_chance_180 rfl <|
 x_ldiv dX5_chance_182 ((h10.2 c11).2 c13).1 <|
 x_goto (tgt := 188) dX5_chance_183 (by decide) <|
 x_lreturn rfl dX5_chance_188 ⟨_, rfl, ((h10.2 c11).2 c13).2⟩))))))))) (fun c1 => x_iload dX5_chance_76 rfl <|
 x_iload dX5_chance_78 rfl <|
 x_iconst dX5_chance_80 ic_m1 <|
 x_ixor dX5_chance_81 <|
 x_iand dX5_chance_82 <|
 x_if_ne (tgt := 130) dX5_chance_83 (by decide) (fun c14 => x_iinc (v := (v10 + 1)) (L2 := [some (.ref 0), some (.int v1), some (.int v2), some (.int v3), some (.int v4), some (.int v5), some (.int v6), some (.int v7), some (.long v8), none, some (.int (v10 + 1)), none, none, none, none, none]) dX5_chance_130 rfl (by rw [show Int32.ofInt (1) = 1 by decide]) rfl (Nat.le_of_ble_eq_true rfl) <|
 x_goto (tgt := 69) dX5_chance_133 (by decide) <|
 ((h.2 c1).1 c14)) (fun c14 => x_aload_n dX5_chance_86 rfl <|
 x_iload dX5_chance_87 rfl <|
 x_iconst dX5_chance_89 ic_1 <|
 x_iload dX5_chance_90 rfl <|
 x_callV (b := 0) (As := [.int v10, .int (1 : Int32), .int v7]) ok_X5_isLawIf ml_X5_188 (okM (by decide)) dX5_chance_92 rfl rfl (Nat.le_of_ble_eq_true rfl) rfl rfl rfl ((h.2 c1).2 c14) <|
 (kI (fun τ15 r16 h17 => x_if_eq (tgt := 130) dX5_chance_95 (by decide) (fun c18 => x_iinc (v := (v10 + 1)) (L2 := [some (.ref 0), some (.int v1), some (.int v2), some (.int v3), some (.int v4), some (.int v5), some (.int v6), some (.int v7), some (.long v8), none, some (.int (v10 + 1)), none, none, none, none, none]) dX5_chance_130 rfl (by rw [show Int32.ofInt (1) = 1 by decide]) rfl (Nat.le_of_ble_eq_true rfl) <|
 x_goto (tgt := 69) dX5_chance_133 (by decide) <|
 (h17.1 c18)) (fun c18 => x_lload dX5_chance_98 rfl <|
 x_iload_n dX5_chance_100 rfl <|
 x_iload dX5_chance_101 rfl <|
 x_callS (As := [.int v10]) ok_J6_bitCount_0f7a4 ml_X5_192 (okM (by decide)) dX5_chance_103 rfl rfl (Nat.le_of_ble_eq_true rfl) (h17.2 c18) <|
 (kI (fun τ19 r20 h21 => x_callS (As := [.int v3, .int r20]) ok_X5_power ml_X5_197 (okM (by decide)) dX5_chance_106 rfl rfl (Nat.le_of_ble_eq_true rfl) h21 <|
 (kL (fun τ22 r23 h24 => x_iload dX5_chance_109 rfl <|
 x_iload_n dX5_chance_111 rfl <|
 x_isub dX5_chance_112 <|
 x_iload dX5_chance_113 rfl <|
 x_iload dX5_chance_115 rfl <|
 x_iconst dX5_chance_117 ic_m1 <|
 x_ixor dX5_chance_118 <|
 x_iand dX5_chance_119 <|
 x_callS (As := [.int (v6 &&& (v10 ^^^ (-1 : Int32)))]) ok_J6_bitCount_0f7a4 ml_X5_192 (okM (by decide)) dX5_chance_120 rfl rfl (Nat.le_of_ble_eq_true rfl) h24 <|
 (kI (fun τ25 r26 h27 => x_callS (As := [.int (v4 - v3), .int r26]) ok_X5_power ml_X5_197 (okM (by decide)) dX5_chance_123 rfl rfl (Nat.le_of_ble_eq_true rfl) h27 <|
 (kL (fun τ28 r29 h30 => x_lmul dX5_chance_126 <|
 x_ladd dX5_chance_127 <|
 x_lstore (L2 := [some (.ref 0), some (.int v1), some (.int v2), some (.int v3), some (.int v4), some (.int v5), some (.int v6), some (.int v7), some (.long (v8 + (r23 * r29))), none, some (.int v10), none, none, none, none, none]) dX5_chance_128 rfl (Nat.le_of_ble_eq_true rfl) <|
 x_iinc (v := (v10 + 1)) (L2 := [some (.ref 0), some (.int v1), some (.int v2), some (.int v3), some (.int v4), some (.int v5), some (.int v6), some (.int v7), some (.long (v8 + (r23 * r29))), none, some (.int (v10 + 1)), none, none, none, none, none]) dX5_chance_130 rfl (by rw [show Int32.ofInt (1) = 1 by decide]) rfl (Nat.le_of_ble_eq_true rfl) <|
 x_goto (tgt := 69) dX5_chance_133 (by decide) <|
 h30)))))))))))))
set_option maxRecDepth 100000 in
set_option maxHeartbeats 4000000 in
theorem M_X5_chance {E : EV} {Q : Sg → Int64 → Prop} {σ : Sg} {a1 : Int32} {a2 : Int32} {a3 : Int32} {a4 : Int32} {a5 : Int32} (h : MetI E mi_X5_isThing [.int a1] σ (fun τ1 r2 => ((r2 = 0) → Q τ1 (-1 : Int64)) ∧ ((¬ r2 = 0) → MetI E mi_X5_isDay [.int a2] τ1 (fun τ5 r6 => ((r6 = 0) → Q τ5 (-1 : Int64)) ∧ ((¬ r6 = 0) → MetI E mi_X5_isShare [.int a3, .int a4] τ5 (fun τ9 r10 => ((r10 = 0) → Q τ9 (-1 : Int64)) ∧ ((¬ r10 = 0) → ((a5 < 0) → Q τ9 (-1 : Int64)) ∧ ((¬ a5 < 0) → ((a5 ≤ (1 : Int32)) → MetV E mi_X5_tellAhead [.ref 0, .int a1, .int a2] τ9 (fun τ15 => MetI E mi_X3_thoseWithout [.ref 32] τ15 (fun τ17 r18 => MetI E mi_X0_firstFrom [.ref 5, .int a2] τ17 (fun τ20 r21 => K_X5_chance_69 E Q τ20 a1 a2 a3 a4 a5 r18 r21 (0 : Int64) (0 : Int32))))) ∧ ((¬ a5 ≤ (1 : Int32)) → Q τ9 (-1 : Int64)))))))))) : MetL E mi_X5_chance [.ref 0, .int a1, .int a2, .int a3, .int a4, .int a5] σ Q :=
 met_of (L := [some (.ref 0), some (.int a1), some (.int a2), some (.int a3), some (.int a4), some (.int a5), none, none, none, none, none, none, none, none, none, none]) pn_X5 rfl (Nat.le_of_ble_eq_true rfl) <|
 x_iload_n dX5_chance_0 rfl <|
 x_callS (As := [.int a1]) ok_X5_isThing ml_X5_124 (okM (by decide)) dX5_chance_1 rfl rfl (Nat.le_of_ble_eq_true rfl) h <|
 (kI (fun τ1 r2 h3 => x_if_eq (tgt := 34) dX5_chance_4 (by decide) (fun c4 => x_ldc2 kc_X5_183 dX5_chance_34 <|
 x_lreturn rfl dX5_chance_37 ⟨_, rfl, (h3.1 c4)⟩) (fun c4 => x_iload_n dX5_chance_7 rfl <|
 x_callS (As := [.int a2]) ok_X5_isDay ml_X5_160 (okM (by decide)) dX5_chance_8 rfl rfl (Nat.le_of_ble_eq_true rfl) (h3.2 c4) <|
 (kI (fun τ5 r6 h7 => x_if_eq (tgt := 34) dX5_chance_11 (by decide) (fun c8 => x_ldc2 kc_X5_183 dX5_chance_34 <|
 x_lreturn rfl dX5_chance_37 ⟨_, rfl, (h7.1 c8)⟩) (fun c8 => x_iload_n dX5_chance_14 rfl <|
 x_iload dX5_chance_15 rfl <|
 x_callS (As := [.int a3, .int a4]) ok_X5_isShare ml_X5_180 (okM (by decide)) dX5_chance_17 rfl rfl (Nat.le_of_ble_eq_true rfl) (h7.2 c8) <|
 (kI (fun τ9 r10 h11 => x_if_eq (tgt := 34) dX5_chance_20 (by decide) (fun c12 => x_ldc2 kc_X5_183 dX5_chance_34 <|
 x_lreturn rfl dX5_chance_37 ⟨_, rfl, (h11.1 c12)⟩) (fun c12 => x_iload dX5_chance_23 rfl <|
 x_if_lt (tgt := 34) dX5_chance_25 (by decide) (fun c13 => x_ldc2 kc_X5_183 dX5_chance_34 <|
 x_lreturn rfl dX5_chance_37 ⟨_, rfl, ((h11.2 c12).1 c13)⟩) (fun c13 => x_iload dX5_chance_28 rfl <|
 x_iconst dX5_chance_30 ic_1 <|
 x_icmp_le (tgt := 38) dX5_chance_31 (by decide) (fun c14 => x_aload_n dX5_chance_38 rfl <|
 x_iload_n dX5_chance_39 rfl <|
 x_iload_n dX5_chance_40 rfl <|
 x_callV (b := 0) (As := [.int a1, .int a2]) ok_X5_tellAhead ml_X5_167 (okM (by decide)) dX5_chance_41 rfl rfl (Nat.le_of_ble_eq_true rfl) rfl rfl rfl (((h11.2 c12).2 c13).1 c14) <|
 (kV (fun τ15 h16 => x_aload_n dX5_chance_44 rfl <|
 x_getf (v := .ref 32) fl_X5_55 rfl rfl rfl dX5_chance_45 <|
 x_callV (b := 32) (As := []) ok_X3_thoseWithout ml_X5_185 (okM (by decide)) dX5_chance_48 rfl rfl (Nat.le_of_ble_eq_true rfl) rfl rfl rfl h16 <|
 (kI (fun τ17 r18 h19 => x_istore (L2 := [some (.ref 0), some (.int a1), some (.int a2), some (.int a3), some (.int a4), some (.int a5), some (.int r18), none, none, none, none, none, none, none, none, none]) dX5_chance_51 rfl (Nat.le_of_ble_eq_true rfl) <|
 x_aload_n dX5_chance_53 rfl <|
 x_getf (v := .ref 5) fl_X5_26 rfl rfl rfl dX5_chance_54 <|
 x_iload_n dX5_chance_57 rfl <|
 x_callV (b := 5) (As := [.int a2]) ok_X0_firstFrom ml_X5_170 (okM (by decide)) dX5_chance_58 rfl rfl (Nat.le_of_ble_eq_true rfl) rfl rfl rfl h19 <|
 (kI (fun τ20 r21 h22 => x_istore (L2 := [some (.ref 0), some (.int a1), some (.int a2), some (.int a3), some (.int a4), some (.int a5), some (.int r18), some (.int r21), none, none, none, none, none, none, none, none]) dX5_chance_61 rfl (Nat.le_of_ble_eq_true rfl) <|
 x_lconst dX5_chance_63 lc_0 <|
 x_lstore (L2 := [some (.ref 0), some (.int a1), some (.int a2), some (.int a3), some (.int a4), some (.int a5), some (.int r18), some (.int r21), some (.long (0 : Int64)), none, none, none, none, none, none, none]) dX5_chance_64 rfl (Nat.le_of_ble_eq_true rfl) <|
 x_iconst dX5_chance_66 ic_0 <|
 x_istore (L2 := [some (.ref 0), some (.int a1), some (.int a2), some (.int a3), some (.int a4), some (.int a5), some (.int r18), some (.int r21), some (.long (0 : Int64)), none, some (.int (0 : Int32)), none, none, none, none, none]) dX5_chance_67 rfl (Nat.le_of_ble_eq_true rfl) <|
 h22))))))) (fun c14 => x_ldc2 kc_X5_183 dX5_chance_34 <|
 x_lreturn rfl dX5_chance_37 ⟨_, rfl, (((h11.2 c12).2 c13).2 c14)⟩)))))))))))
set_option maxRecDepth 100000 in
set_option maxHeartbeats 4000000 in
theorem M_X5_markSaying {E : EV} {Q : Sg → Int32 → Prop} {σ : Sg} {a1 : Int32} (h : vp_in a1 8 ∧ MetI E mi_J6_bitCount_0f7a4 [.int ((gm σ 38) a1.toNatClampNeg)] (sl σ 10 ((gl σ 10) + (1 : Int64))) (fun τ1 r2 => Q τ1 r2)) : MetI E mi_X5_markSaying [.ref 0, .int a1] σ Q :=
 met_of (L := [some (.ref 0), some (.int a1)]) pn_X5 rfl (Nat.le_of_ble_eq_true rfl) <|
 x_aload_n dX5_markSaying_0 rfl <|
 x_dup dX5_markSaying_1 rfl <|
 x_getf (v := .long (gl σ 10)) fl_X5_62 rfl rfl rfl dX5_markSaying_2 <|
 x_lconst dX5_markSaying_5 lc_1 <|
 x_ladd dX5_markSaying_6 <|
 x_putl fp_X5_62 rfl rfl dX5_markSaying_7 <|
 x_aload_n dX5_markSaying_10 rfl <|
 x_getf (v := .ref 36) fl_X5_59 rfl rfl rfl dX5_markSaying_11 <|
 x_getf (v := .ref 38) fl_X5_131 rfl rfl rfl dX5_markSaying_14 <|
 x_iload_n dX5_markSaying_17 rfl <|
 x_iaload (v := ((gm σ 38) a1.toNatClampNeg)) rfl h.1 rfl dX5_markSaying_18 <|
 x_callS (As := [.int ((gm σ 38) a1.toNatClampNeg)]) ok_J6_bitCount_0f7a4 ml_X5_192 (okM (by decide)) dX5_markSaying_19 rfl rfl (Nat.le_of_ble_eq_true rfl) h.2 <|
 (kI (fun τ1 r2 h3 => x_ireturn rfl dX5_markSaying_22 ⟨_, rfl, h3⟩))
set_option maxRecDepth 100000 in
set_option maxHeartbeats 4000000 in
theorem M_X5_markHeard {E : EV} {Q : Sg → Int32 → Prop} {σ : Sg} {a1 : Int32} (h : MetI E mi_X5_markSaying [.ref 0, .int a1] (sl σ 10 ((gl σ 10) + (10 : Int64))) (fun τ1 r2 => Q τ1 (r2 * (2 : Int32)))) : MetI E mi_X5_markHeard [.ref 0, .int a1] σ Q :=
 met_of (L := [some (.ref 0), some (.int a1)]) pn_X5 rfl (Nat.le_of_ble_eq_true rfl) <|
 x_aload_n dX5_markHeard_0 rfl <|
 x_dup dX5_markHeard_1 rfl <|
 x_getf (v := .long (gl σ 10)) fl_X5_62 rfl rfl rfl dX5_markHeard_2 <|
 x_ldc2 kc_X5_253 dX5_markHeard_5 <|
 x_ladd dX5_markHeard_8 <|
 x_putl fp_X5_62 rfl rfl dX5_markHeard_9 <|
 x_aload_n dX5_markHeard_12 rfl <|
 x_iload_n dX5_markHeard_13 rfl <|
 x_callV (b := 0) (As := [.int a1]) ok_X5_markSaying ml_X5_222 (okM (by decide)) dX5_markHeard_14 rfl rfl (Nat.le_of_ble_eq_true rfl) rfl rfl rfl h <|
 (kI (fun τ1 r2 h3 => x_iconst dX5_markHeard_17 ic_2 <|
 x_imul dX5_markHeard_18 <|
 x_ireturn rfl dX5_markHeard_19 ⟨_, rfl, h3⟩))
set_option maxRecDepth 100000 in
set_option maxHeartbeats 4000000 in
theorem M_X5_markOwn {E : EV} {Q : Sg → Int32 → Prop} {σ : Sg} {a1 : Int32} (h : MetI E mi_X5_markSaying [.ref 0, .int a1] (sl σ 10 ((gl σ 10) + (100 : Int64))) (fun τ1 r2 => Q τ1 (r2 + a1))) : MetI E mi_X5_markOwn [.ref 0, .int a1] σ Q :=
 met_of (L := [some (.ref 0), some (.int a1)]) pn_X5 rfl (Nat.le_of_ble_eq_true rfl) <|
 x_aload_n dX5_markOwn_0 rfl <|
 x_dup dX5_markOwn_1 rfl <|
 x_getf (v := .long (gl σ 10)) fl_X5_62 rfl rfl rfl dX5_markOwn_2 <|
 x_ldc2 kc_X5_255 dX5_markOwn_5 <|
 x_ladd dX5_markOwn_8 <|
 x_putl fp_X5_62 rfl rfl dX5_markOwn_9 <|
 x_aload_n dX5_markOwn_12 rfl <|
 x_iload_n dX5_markOwn_13 rfl <|
 x_callV (b := 0) (As := [.int a1]) ok_X5_markSaying ml_X5_222 (okM (by decide)) dX5_markOwn_14 rfl rfl (Nat.le_of_ble_eq_true rfl) rfl rfl rfl h <|
 (kI (fun τ1 r2 h3 => x_iload_n dX5_markOwn_17 rfl <|
 x_iadd dX5_markOwn_18 <|
 x_ireturn rfl dX5_markOwn_19 ⟨_, rfl, h3⟩))
set_option maxRecDepth 100000 in
set_option maxHeartbeats 4000000 in
theorem M_X5_markSong {E : EV} {Q : Sg → Int32 → Prop} {σ : Sg} {a1 : Int32} {a2 : Int32} (h : MetI E mi_X5_markHeard [.ref 0, .int a1] (sl σ 10 ((gl σ 10) + (1000 : Int64))) (fun τ1 r2 => Q τ1 (r2 + a2))) : MetI E mi_X5_markSong [.ref 0, .int a1, .int a2] σ Q :=
 met_of (L := [some (.ref 0), some (.int a1), some (.int a2)]) pn_X5 rfl (Nat.le_of_ble_eq_true rfl) <|
 x_aload_n dX5_markSong_0 rfl <|
 x_dup dX5_markSong_1 rfl <|
 x_getf (v := .long (gl σ 10)) fl_X5_62 rfl rfl rfl dX5_markSong_2 <|
 x_ldc2 kc_X5_257 dX5_markSong_5 <|
 x_ladd dX5_markSong_8 <|
 x_putl fp_X5_62 rfl rfl dX5_markSong_9 <|
 x_aload_n dX5_markSong_12 rfl <|
 x_iload_n dX5_markSong_13 rfl <|
 x_callV (b := 0) (As := [.int a1]) ok_X5_markHeard ml_X5_206 (okM (by decide)) dX5_markSong_14 rfl rfl (Nat.le_of_ble_eq_true rfl) rfl rfl rfl h <|
 (kI (fun τ1 r2 h3 => x_iload_n dX5_markSong_17 rfl <|
 x_iadd dX5_markSong_18 <|
 x_ireturn rfl dX5_markSong_19 ⟨_, rfl, h3⟩))
set_option maxRecDepth 100000 in
set_option maxHeartbeats 4000000 in
theorem M_X5_markHum {E : EV} {Q : Sg → Int32 → Prop} {σ : Sg} {a1 : Int32} (h : MetI E mi_X5_markOwn [.ref 0, .int a1] (sl σ 10 ((gl σ 10) + (10000 : Int64))) (fun τ1 r2 => vp_in a1 8 ∧ Q τ1 (r2 - ((gm τ1 37) a1.toNatClampNeg)))) : MetI E mi_X5_markHum [.ref 0, .int a1] σ Q :=
 met_of (L := [some (.ref 0), some (.int a1)]) pn_X5 rfl (Nat.le_of_ble_eq_true rfl) <|
 x_aload_n dX5_markHum_0 rfl <|
 x_dup dX5_markHum_1 rfl <|
 x_getf (v := .long (gl σ 10)) fl_X5_62 rfl rfl rfl dX5_markHum_2 <|
 x_ldc2 kc_X5_259 dX5_markHum_5 <|
 x_ladd dX5_markHum_8 <|
 x_putl fp_X5_62 rfl rfl dX5_markHum_9 <|
 x_aload_n dX5_markHum_12 rfl <|
 x_iload_n dX5_markHum_13 rfl <|
 x_callV (b := 0) (As := [.int a1]) ok_X5_markOwn ml_X5_209 (okM (by decide)) dX5_markHum_14 rfl rfl (Nat.le_of_ble_eq_true rfl) rfl rfl rfl h <|
 (kI (fun τ1 r2 h3 => x_aload_n dX5_markHum_17 rfl <|
 x_getf (v := .ref 36) fl_X5_59 rfl rfl rfl dX5_markHum_18 <|
 x_getf (v := .ref 37) fl_X5_143 rfl rfl rfl dX5_markHum_21 <|
 x_iload_n dX5_markHum_24 rfl <|
 x_iaload (v := ((gm τ1 37) a1.toNatClampNeg)) rfl h3.1 rfl dX5_markHum_25 <|
 x_isub dX5_markHum_26 <|
 x_ireturn rfl dX5_markHum_27 ⟨_, rfl, h3.2⟩))
set_option maxRecDepth 100000 in
set_option maxHeartbeats 4000000 in
theorem M_X5_markWritten {E : EV} {Q : Sg → Int32 → Prop} {σ : Sg} {a1 : Int32} (h : MetI E mi_X5_markSaying [.ref 0, .int a1] (sl σ 10 ((gl σ 10) + (100000 : Int64))) (fun τ1 r2 => Q τ1 (r2 + (gi τ1 505)))) : MetI E mi_X5_markWritten [.ref 0, .int a1] σ Q :=
 met_of (L := [some (.ref 0), some (.int a1)]) pn_X5 rfl (Nat.le_of_ble_eq_true rfl) <|
 x_aload_n dX5_markWritten_0 rfl <|
 x_dup dX5_markWritten_1 rfl <|
 x_getf (v := .long (gl σ 10)) fl_X5_62 rfl rfl rfl dX5_markWritten_2 <|
 x_ldc2 kc_X5_261 dX5_markWritten_5 <|
 x_ladd dX5_markWritten_8 <|
 x_putl fp_X5_62 rfl rfl dX5_markWritten_9 <|
 x_aload_n dX5_markWritten_12 rfl <|
 x_iload_n dX5_markWritten_13 rfl <|
 x_callV (b := 0) (As := [.int a1]) ok_X5_markSaying ml_X5_222 (okM (by decide)) dX5_markWritten_14 rfl rfl (Nat.le_of_ble_eq_true rfl) rfl rfl rfl h <|
 (kI (fun τ1 r2 h3 => x_aload_n dX5_markWritten_17 rfl <|
 x_getf (v := .ref 5) fl_X5_26 rfl rfl rfl dX5_markWritten_18 <|
 x_getf (v := .int (gi τ1 505)) fl_X5_90 rfl rfl rfl dX5_markWritten_21 <|
 x_iadd dX5_markWritten_24 <|
 x_ireturn rfl dX5_markWritten_25 ⟨_, rfl, h3⟩))
set_option maxRecDepth 100000 in
set_option maxHeartbeats 4000000 in
theorem M_X5_mark {E : EV} {Q : Sg → Int32 → Prop} {σ : Sg} {a1 : Int32} {a2 : Int32} {a3 : Int32} (h : ((a1 < 0) → Q σ (-1000000 : Int32)) ∧ ((¬ a1 < 0) → (((5 : Int32) < a1) → Q σ (-1000000 : Int32)) ∧ ((¬ (5 : Int32) < a1) → MetI E mi_X1_knows [.ref 3, .int a2] σ (fun τ3 r4 => ((r4 = 0) → Q τ3 (-1000000 : Int32)) ∧ ((¬ r4 = 0) → MetI E mi_X5_isThing [.int a3] τ3 (fun τ7 r8 => ((¬ r8 = 0) → MetV E mi_X5_tellStory [.ref 0, .int a3, .int (0 : Int32)] τ7 (fun τ11 => ((a1.toInt < 1 ∨ 5 < a1.toInt) → MetI E mi_X5_markSaying [.ref 0, .int a2] τ11 (fun τ14 r15 => Q τ14 r15)) ∧ ((a1.toInt = 1) → MetI E mi_X5_markHeard [.ref 0, .int a2] τ11 (fun τ18 r19 => Q τ18 r19)) ∧ ((a1.toInt = 2) → MetI E mi_X5_markOwn [.ref 0, .int a2] τ11 (fun τ22 r23 => Q τ22 r23)) ∧ ((a1.toInt = 3) → MetI E mi_X5_markSong [.ref 0, .int a2, .int a3] τ11 (fun τ26 r27 => Q τ26 r27)) ∧ ((a1.toInt = 4) → MetI E mi_X5_markHum [.ref 0, .int a2] τ11 (fun τ30 r31 => Q τ30 r31)) ∧ ((a1.toInt = 5) → MetI E mi_X5_markWritten [.ref 0, .int a2] τ11 (fun τ34 r35 => Q τ34 r35)))) ∧ ((r8 = 0) → Q τ7 (-1000000 : Int32)))))))) : MetI E mi_X5_mark [.ref 0, .int a1, .int a2, .int a3] σ Q :=
 met_of (L := [some (.ref 0), some (.int a1), some (.int a2), some (.int a3)]) pn_X5 rfl (Nat.le_of_ble_eq_true rfl) <|
 x_iload_n dX5_mark_0 rfl <|
 x_if_lt (tgt := 27) dX5_mark_1 (by decide) (fun c1 => x_ldc kc_X5_205 dX5_mark_27 <|
 x_ireturn rfl dX5_mark_29 ⟨_, rfl, (h.1 c1)⟩) (fun c1 => x_iload_n dX5_mark_4 rfl <|
 x_iconst dX5_mark_5 ic_5 <|
 x_icmp_gt (tgt := 27) dX5_mark_6 (by decide) (fun c2 => x_ldc kc_X5_205 dX5_mark_27 <|
 x_ireturn rfl dX5_mark_29 ⟨_, rfl, ((h.2 c1).1 c2)⟩) (fun c2 => x_aload_n dX5_mark_9 rfl <|
 x_getf (v := .ref 3) fl_X5_19 rfl rfl rfl dX5_mark_10 <|
 x_iload_n dX5_mark_13 rfl <|
 x_callV (b := 3) (As := [.int a2]) ok_X1_knows ml_X5_104 (okM (by decide)) dX5_mark_14 rfl rfl (Nat.le_of_ble_eq_true rfl) rfl rfl rfl ((h.2 c1).2 c2) <|
 (kI (fun τ3 r4 h5 => x_if_eq (tgt := 27) dX5_mark_17 (by decide) (fun c6 => x_ldc kc_X5_205 dX5_mark_27 <|
 x_ireturn rfl dX5_mark_29 ⟨_, rfl, (h5.1 c6)⟩) (fun c6 => x_iload_n dX5_mark_20 rfl <|
 x_callS (As := [.int a3]) ok_X5_isThing ml_X5_124 (okM (by decide)) dX5_mark_21 rfl rfl (Nat.le_of_ble_eq_true rfl) (h5.2 c6) <|
 (kI (fun τ7 r8 h9 => x_if_ne (tgt := 30) dX5_mark_24 (by decide) (fun c10 => x_aload_n dX5_mark_30 rfl <|
 x_iload_n dX5_mark_31 rfl <|
 x_iconst dX5_mark_32 ic_0 <|
 x_callV (b := 0) (As := [.int a3, .int (0 : Int32)]) ok_X5_tellStory ml_X5_127 (okM (by decide)) dX5_mark_33 rfl rfl (Nat.le_of_ble_eq_true rfl) rfl rfl rfl (h9.1 c10) <|
 (kV (fun τ11 h12 => x_iload_n dX5_mark_36 rfl <|
 x_tab dX5_mark_37 rfl ⟨by decide, by decide⟩ (fun c13 tgt ht => by
  have e : tgt = 103 := by omega
  subst e
  exact x_aload_n dX5_mark_103 rfl <|
 x_iload_n dX5_mark_104 rfl <|
 x_callV (b := 0) (As := [.int a2]) ok_X5_markSaying ml_X5_222 (okM (by decide)) dX5_mark_105 rfl rfl (Nat.le_of_ble_eq_true rfl) rfl rfl rfl (h12.1 c13) <|
 (kI (fun τ14 r15 h16 => x_ireturn rfl dX5_mark_108 ⟨_, rfl, h16⟩))) (fun i off tgt ho hi ht => by
  match i, ho, hi with
  | 0, ho, hi =>
    have e0 : (35 : Int) = off := Option.some.inj ho
    have e : tgt = 72 := by omega
    subst e
    have c17 : a1.toInt = 1 := by omega
    exact x_aload_n dX5_mark_72 rfl <|
 x_iload_n dX5_mark_73 rfl <|
 x_callV (b := 0) (As := [.int a2]) ok_X5_markHeard ml_X5_206 (okM (by decide)) dX5_mark_74 rfl rfl (Nat.le_of_ble_eq_true rfl) rfl rfl rfl (h12.2.1 c17) <|
 (kI (fun τ18 r19 h20 => x_ireturn rfl dX5_mark_77 ⟨_, rfl, h20⟩))
  | 1, ho, hi =>
    have e0 : (41 : Int) = off := Option.some.inj ho
    have e : tgt = 78 := by omega
    subst e
    have c21 : a1.toInt = 2 := by omega
    exact x_aload_n dX5_mark_78 rfl <|
 x_iload_n dX5_mark_79 rfl <|
 x_callV (b := 0) (As := [.int a2]) ok_X5_markOwn ml_X5_209 (okM (by decide)) dX5_mark_80 rfl rfl (Nat.le_of_ble_eq_true rfl) rfl rfl rfl (h12.2.2.1 c21) <|
 (kI (fun τ22 r23 h24 => x_ireturn rfl dX5_mark_83 ⟨_, rfl, h24⟩))
  | 2, ho, hi =>
    have e0 : (47 : Int) = off := Option.some.inj ho
    have e : tgt = 84 := by omega
    subst e
    have c25 : a1.toInt = 3 := by omega
    exact x_aload_n dX5_mark_84 rfl <|
 x_iload_n dX5_mark_85 rfl <|
 x_iload_n dX5_mark_86 rfl <|
 x_callV (b := 0) (As := [.int a2, .int a3]) ok_X5_markSong ml_X5_212 (okM (by decide)) dX5_mark_87 rfl rfl (Nat.le_of_ble_eq_true rfl) rfl rfl rfl (h12.2.2.2.1 c25) <|
 (kI (fun τ26 r27 h28 => x_ireturn rfl dX5_mark_90 ⟨_, rfl, h28⟩))
  | 3, ho, hi =>
    have e0 : (54 : Int) = off := Option.some.inj ho
    have e : tgt = 91 := by omega
    subst e
    have c29 : a1.toInt = 4 := by omega
    exact x_aload_n dX5_mark_91 rfl <|
 x_iload_n dX5_mark_92 rfl <|
 x_callV (b := 0) (As := [.int a2]) ok_X5_markHum ml_X5_216 (okM (by decide)) dX5_mark_93 rfl rfl (Nat.le_of_ble_eq_true rfl) rfl rfl rfl (h12.2.2.2.2.1 c29) <|
 (kI (fun τ30 r31 h32 => x_ireturn rfl dX5_mark_96 ⟨_, rfl, h32⟩))
  | 4, ho, hi =>
    have e0 : (60 : Int) = off := Option.some.inj ho
    have e : tgt = 97 := by omega
    subst e
    have c33 : a1.toInt = 5 := by omega
    exact x_aload_n dX5_mark_97 rfl <|
 x_iload_n dX5_mark_98 rfl <|
 x_callV (b := 0) (As := [.int a2]) ok_X5_markWritten ml_X5_219 (okM (by decide)) dX5_mark_99 rfl rfl (Nat.le_of_ble_eq_true rfl) rfl rfl rfl (h12.2.2.2.2.2 c33) <|
 (kI (fun τ34 r35 h36 => x_ireturn rfl dX5_mark_102 ⟨_, rfl, h36⟩))
  | n + 5, ho, hi => exact absurd ho (by simp))))) (fun c10 => x_ldc kc_X5_205 dX5_mark_27 <|
 x_ireturn rfl dX5_mark_29 ⟨_, rfl, (h9.2 c10)⟩))))))))
set_option maxRecDepth 100000 in
set_option maxHeartbeats 4000000 in
theorem M_X5_keep {E : EV} {Q : Sg → Int32 → Prop} {σ : Sg} {a1 : Int32} (h : ((¬ a1 = 0) → ((¬ a1 = (1 : Int32)) → Q σ (-1 : Int32)) ∧ ((a1 = (1 : Int32)) → MetV E mi_X0_takeFrom [.ref 26, .ref 5] σ (fun τ3 => Q (si τ3 7 (1 : Int32)) (gi τ3 505)))) ∧ ((a1 = 0) → MetV E mi_X0_takeFrom [.ref 20, .ref 5] σ (fun τ5 => Q (si τ5 6 (1 : Int32)) (gi τ5 505)))) : MetI E mi_X5_keep [.ref 0, .int a1] σ Q :=
 met_of (L := [some (.ref 0), some (.int a1)]) pn_X5 rfl (Nat.le_of_ble_eq_true rfl) <|
 x_iload_n dX5_keep_0 rfl <|
 x_if_ne (tgt := 23) dX5_keep_1 (by decide) (fun c1 => x_iload_n dX5_keep_23 rfl <|
 x_iconst dX5_keep_24 ic_1 <|
 x_icmp_ne (tgt := 47) dX5_keep_25 (by decide) (fun c2 => x_iconst dX5_keep_47 ic_m1 <|
 x_ireturn rfl dX5_keep_48 ⟨_, rfl, ((h.1 c1).1 c2)⟩) (fun c2 => x_aload_n dX5_keep_28 rfl <|
 x_getf (v := .ref 26) fl_X5_42 rfl rfl rfl dX5_keep_29 <|
 x_aload_n dX5_keep_32 rfl <|
 x_getf (v := .ref 5) fl_X5_26 rfl rfl rfl dX5_keep_33 <|
 x_callV (b := 26) (As := [.ref 5]) ok_X0_takeFrom ml_X5_87 (okM (by decide)) dX5_keep_36 rfl rfl (Nat.le_of_ble_eq_true rfl) rfl rfl rfl ((h.1 c1).2 c2) <|
 (kV (fun τ3 h4 => x_aload_n dX5_keep_39 rfl <|
 x_iconst dX5_keep_40 ic_1 <|
 x_putz fp_X5_49 (Or.inr rfl) rfl rfl dX5_keep_41 <|
 x_goto (tgt := 49) dX5_keep_44 (by decide) <|
 x_aload_n dX5_keep_49 rfl <|
 x_getf (v := .ref 5) fl_X5_26 rfl rfl rfl dX5_keep_50 <|
 x_getf (v := .int (gi τ3 505)) fl_X5_90 rfl rfl rfl dX5_keep_53 <|
 x_ireturn rfl dX5_keep_56 ⟨_, rfl, h4⟩)))) (fun c1 => x_aload_n dX5_keep_4 rfl <|
 x_getf (v := .ref 20) fl_X5_39 rfl rfl rfl dX5_keep_5 <|
 x_aload_n dX5_keep_8 rfl <|
 x_getf (v := .ref 5) fl_X5_26 rfl rfl rfl dX5_keep_9 <|
 x_callV (b := 20) (As := [.ref 5]) ok_X0_takeFrom ml_X5_87 (okM (by decide)) dX5_keep_12 rfl rfl (Nat.le_of_ble_eq_true rfl) rfl rfl rfl (h.2 c1) <|
 (kV (fun τ5 h6 => x_aload_n dX5_keep_15 rfl <|
 x_iconst dX5_keep_16 ic_1 <|
 x_putz fp_X5_45 (Or.inr rfl) rfl rfl dX5_keep_17 <|
 x_goto (tgt := 49) dX5_keep_20 (by decide) <|
 x_aload_n dX5_keep_49 rfl <|
 x_getf (v := .ref 5) fl_X5_26 rfl rfl rfl dX5_keep_50 <|
 x_getf (v := .int (gi τ5 505)) fl_X5_90 rfl rfl rfl dX5_keep_53 <|
 x_ireturn rfl dX5_keep_56 ⟨_, rfl, h6⟩)))
set_option maxRecDepth 100000 in
set_option maxHeartbeats 4000000 in
theorem M_X5_back {E : EV} {Q : Sg → Int32 → Prop} {σ : Sg} {a1 : Int32} (h : ((a1 < 0) → Q σ (-1 : Int32)) ∧ ((¬ a1 < 0) → ((a1 ≤ (1 : Int32)) → ((¬ a1 = 0) → ((¬ (gi σ 7) = 0) → MetV E mi_X0_takeFrom [.ref 5, .ref 26] σ (fun τ5 => Q τ5 (gi τ5 505))) ∧ (((gi σ 7) = 0) → Q σ (-2 : Int32))) ∧ ((a1 = 0) → (((gi σ 6) = 0) → Q σ (-2 : Int32)) ∧ ((¬ (gi σ 6) = 0) → MetV E mi_X0_takeFrom [.ref 5, .ref 20] σ (fun τ8 => Q τ8 (gi τ8 505))))) ∧ ((¬ a1 ≤ (1 : Int32)) → Q σ (-1 : Int32)))) : MetI E mi_X5_back [.ref 0, .int a1] σ Q :=
 met_of (L := [some (.ref 0), some (.int a1)]) pn_X5 rfl (Nat.le_of_ble_eq_true rfl) <|
 x_iload_n dX5_back_0 rfl <|
 x_if_lt (tgt := 9) dX5_back_1 (by decide) (fun c1 => x_iconst dX5_back_9 ic_m1 <|
 x_ireturn rfl dX5_back_10 ⟨_, rfl, (h.1 c1)⟩) (fun c1 => x_iload_n dX5_back_4 rfl <|
 x_iconst dX5_back_5 ic_1 <|
 x_icmp_le (tgt := 11) dX5_back_6 (by decide) (fun c2 => x_iload_n dX5_back_11 rfl <|
 x_if_ne (tgt := 25) dX5_back_12 (by decide) (fun c3 => x_aload_n dX5_back_25 rfl <|
 x_getf (v := .int (gi σ 7)) fl_X5_49 rfl rfl rfl dX5_back_26 <|
 x_if_ne (tgt := 35) dX5_back_29 (by decide) (fun c4 => x_aload_n dX5_back_35 rfl <|
 x_getf (v := .ref 5) fl_X5_26 rfl rfl rfl dX5_back_36 <|
 x_iload_n dX5_back_39 rfl <|
 x_if_ne (tgt := 50) dX5_back_40 (by decide) (fun _ => x_aload_n dX5_back_50 rfl <|
 x_getf (v := .ref 26) fl_X5_42 rfl rfl rfl dX5_back_51 <|
 x_callV (b := 5) (As := [.ref 26]) ok_X0_takeFrom ml_X5_87 (okM (by decide)) dX5_back_54 rfl rfl (Nat.le_of_ble_eq_true rfl) rfl rfl rfl ((((h.2 c1).1 c2).1 c3).1 c4) <|
 (kV (fun τ5 h6 => x_aload_n dX5_back_57 rfl <|
 x_getf (v := .ref 5) fl_X5_26 rfl rfl rfl dX5_back_58 <|
 x_getf (v := .int (gi τ5 505)) fl_X5_90 rfl rfl rfl dX5_back_61 <|
 x_ireturn rfl dX5_back_64 ⟨_, rfl, h6⟩))) (fun c => absurd c c3)) (fun c4 => x_bipush dX5_back_32 bp_m2 <|
 x_ireturn rfl dX5_back_34 ⟨_, rfl, ((((h.2 c1).1 c2).1 c3).2 c4)⟩)) (fun c3 => x_aload_n dX5_back_15 rfl <|
 x_getf (v := .int (gi σ 6)) fl_X5_45 rfl rfl rfl dX5_back_16 <|
 x_if_eq (tgt := 32) dX5_back_19 (by decide) (fun c7 => x_bipush dX5_back_32 bp_m2 <|
 x_ireturn rfl dX5_back_34 ⟨_, rfl, ((((h.2 c1).1 c2).2 c3).1 c7)⟩) (fun c7 => x_goto (tgt := 35) dX5_back_22 (by decide) <|
 x_aload_n dX5_back_35 rfl <|
 x_getf (v := .ref 5) fl_X5_26 rfl rfl rfl dX5_back_36 <|
 x_iload_n dX5_back_39 rfl <|
 x_if_ne (tgt := 50) dX5_back_40 (by decide) (fun c => absurd c3 c) (fun _ => x_aload_n dX5_back_43 rfl <|
 x_getf (v := .ref 20) fl_X5_39 rfl rfl rfl dX5_back_44 <|
 x_goto (tgt := 54) dX5_back_47 (by decide) <|
 x_callV (b := 5) (As := [.ref 20]) ok_X0_takeFrom ml_X5_87 (okM (by decide)) dX5_back_54 rfl rfl (Nat.le_of_ble_eq_true rfl) rfl rfl rfl ((((h.2 c1).1 c2).2 c3).2 c7) <|
 (kV (fun τ8 h9 => x_aload_n dX5_back_57 rfl <|
 x_getf (v := .ref 5) fl_X5_26 rfl rfl rfl dX5_back_58 <|
 x_getf (v := .int (gi τ8 505)) fl_X5_90 rfl rfl rfl dX5_back_61 <|
 x_ireturn rfl dX5_back_64 ⟨_, rfl, h9⟩)))))) (fun c2 => x_iconst dX5_back_9 ic_m1 <|
 x_ireturn rfl dX5_back_10 ⟨_, rfl, ((h.2 c1).2 c2)⟩))
set_option maxRecDepth 100000 in
set_option maxHeartbeats 4000000 in
theorem M_X5_count {E : EV} {Q : Sg → Int32 → Prop} {σ : Sg} {a1 : Int32} (h : ((a1.toInt < 0 ∨ 4 < a1.toInt) → Q σ (-1 : Int32)) ∧ ((a1.toInt = 0) → Q σ (gi σ 301)) ∧ ((a1.toInt = 1) → Q σ (gi σ 505)) ∧ ((a1.toInt = 2) → Q σ (gi σ 506)) ∧ ((a1.toInt = 3) → Q σ (gi σ 507)) ∧ ((a1.toInt = 4) → Q σ (gi σ 101))) : MetI E mi_X5_count [.ref 0, .int a1] σ Q :=
 met_of (L := [some (.ref 0), some (.int a1)]) pn_X5 rfl (Nat.le_of_ble_eq_true rfl) <|
 x_iload_n dX5_count_0 rfl <|
 x_tab dX5_count_1 rfl ⟨by decide, by decide⟩ (fun c1 tgt ht => by
  have e : tgt = 76 := by omega
  subst e
  exact x_iconst dX5_count_76 ic_m1 <|
 x_ireturn rfl dX5_count_77 ⟨_, rfl, (h.1 c1)⟩) (fun i off tgt ho hi ht => by
  match i, ho, hi with
  | 0, ho, hi =>
    have e0 : (35 : Int) = off := Option.some.inj ho
    have e : tgt = 36 := by omega
    subst e
    have c2 : a1.toInt = 0 := by omega
    exact x_aload_n dX5_count_36 rfl <|
 x_getf (v := .ref 3) fl_X5_19 rfl rfl rfl dX5_count_37 <|
 x_getf (v := .int (gi σ 301)) fl_X5_225 rfl rfl rfl dX5_count_40 <|
 x_ireturn rfl dX5_count_43 ⟨_, rfl, (h.2.1 c2)⟩
  | 1, ho, hi =>
    have e0 : (43 : Int) = off := Option.some.inj ho
    have e : tgt = 44 := by omega
    subst e
    have c3 : a1.toInt = 1 := by omega
    exact x_aload_n dX5_count_44 rfl <|
 x_getf (v := .ref 5) fl_X5_26 rfl rfl rfl dX5_count_45 <|
 x_getf (v := .int (gi σ 505)) fl_X5_90 rfl rfl rfl dX5_count_48 <|
 x_ireturn rfl dX5_count_51 ⟨_, rfl, (h.2.2.1 c3)⟩
  | 2, ho, hi =>
    have e0 : (51 : Int) = off := Option.some.inj ho
    have e : tgt = 52 := by omega
    subst e
    have c4 : a1.toInt = 2 := by omega
    exact x_aload_n dX5_count_52 rfl <|
 x_getf (v := .ref 5) fl_X5_26 rfl rfl rfl dX5_count_53 <|
 x_getf (v := .int (gi σ 506)) fl_X5_154 rfl rfl rfl dX5_count_56 <|
 x_ireturn rfl dX5_count_59 ⟨_, rfl, (h.2.2.2.1 c4)⟩
  | 3, ho, hi =>
    have e0 : (59 : Int) = off := Option.some.inj ho
    have e : tgt = 60 := by omega
    subst e
    have c5 : a1.toInt = 3 := by omega
    exact x_aload_n dX5_count_60 rfl <|
 x_getf (v := .ref 5) fl_X5_26 rfl rfl rfl dX5_count_61 <|
 x_getf (v := .int (gi σ 507)) fl_X5_118 rfl rfl rfl dX5_count_64 <|
 x_ireturn rfl dX5_count_67 ⟨_, rfl, (h.2.2.2.2.1 c5)⟩
  | 4, ho, hi =>
    have e0 : (67 : Int) = off := Option.some.inj ho
    have e : tgt = 68 := by omega
    subst e
    have c6 : a1.toInt = 4 := by omega
    exact x_aload_n dX5_count_68 rfl <|
 x_getf (v := .ref 1) fl_X5_12 rfl rfl rfl dX5_count_69 <|
 x_getf (v := .int (gi σ 101)) fl_X5_66 rfl rfl rfl dX5_count_72 <|
 x_ireturn rfl dX5_count_75 ⟨_, rfl, (h.2.2.2.2.2 c6)⟩
  | n + 5, ho, hi => exact absurd ho (by simp))
set_option maxRecDepth 100000 in
set_option maxHeartbeats 4000000 in
theorem M_X5_trace {E : EV} {Q : Sg → Int64 → Prop} {σ : Sg} (h : Q σ (gl σ 10)) : MetL E mi_X5_trace [.ref 0] σ Q :=
 met_of (L := [some (.ref 0)]) pn_X5 rfl (Nat.le_of_ble_eq_true rfl) <|
 x_aload_n dX5_trace_0 rfl <|
 x_getf (v := .long (gl σ 10)) fl_X5_62 rfl rfl rfl dX5_trace_1 <|
 x_lreturn rfl dX5_trace_4 ⟨_, rfl, h⟩
def K_X5_isLawByTurns_46 (E : EV) (Q : Sg → Int32 → Prop) (k : Nat) (σ : Sg) (v1 : Int32) (v2 : Int32) (v3 : Int32) (v4 : Int32) (v5 : Int32) : Prop := J E (mi_X5_isLawByTurns k) (tgM E (mi_X5_isLawByTurns k) (qI Q)) 46 [some (.ref 0), some (.int v1), some (.int v2), some (.int v3), some (.int v4), some (.int v5)] [] σ
set_option maxRecDepth 100000 in
set_option maxHeartbeats 4000000 in
theorem B_X5_isLawByTurns_46 {E : EV} {Q : Sg → Int32 → Prop} {k : Nat} {σ : Sg} {v1 : Int32} {v2 : Int32} {v3 : Int32} {v4 : Int32} {v5 : Int32} (h : (((gi σ 301) ≤ v5) → ((¬ v4 = v3) → Q σ (0 : Int32)) ∧ ((v4 = v3) → Q σ (1 : Int32))) ∧ ((¬ (gi σ 301) ≤ v5) → ((¬ v4 = 0) → ((¬ v4 = v3) → Q σ (0 : Int32)) ∧ ((v4 = v3) → Q σ (1 : Int32))) ∧ ((v4 = 0) → MetI E (mi_X5_isReachedBy (k + 1)) [.ref 0, .int v5, .int v1, .int v2] σ (fun τ5 r6 => K_X5_isLawByTurns_46 E Q (k + 1) τ5 v1 v2 v3 r6 (v5 + 1))))) : K_X5_isLawByTurns_46 E Q (k + 1) σ v1 v2 v3 v4 v5 :=
 x_iload dX5_isLawByTurns_46 rfl <|
 x_aload_n dX5_isLawByTurns_48 rfl <|
 x_getf (v := .ref 3) fl_X5_19 rfl rfl rfl dX5_isLawByTurns_49 <|
 x_getf (v := .int (gi σ 301)) fl_X5_225 rfl rfl rfl dX5_isLawByTurns_52 <|
 x_icmp_ge (tgt := 79) dX5_isLawByTurns_55 (by decide) (fun c1 => x_iload dX5_isLawByTurns_79 rfl <|
 x_iload_n dX5_isLawByTurns_81 rfl <|
 x_icmp_ne (tgt := 89) dX5_isLawByTurns_82 (by decide) (fun c2 => x_iconst dX5_isLawByTurns_89 ic_0 <|
 x_zreturn rfl (Or.inl rfl) dX5_isLawByTurns_90 ⟨_, rfl, ((h.1 c1).1 c2)⟩) (fun c2 => x_iconst dX5_isLawByTurns_85 ic_1 <|
 x_goto (tgt := 90) dX5_isLawByTurns_86 (by decide) <|
 x_zreturn rfl (Or.inr rfl) dX5_isLawByTurns_90 ⟨_, rfl, ((h.1 c1).2 c2)⟩)) (fun c1 => x_iload dX5_isLawByTurns_58 rfl <|
 x_if_ne (tgt := 79) dX5_isLawByTurns_60 (by decide) (fun c3 => x_iload dX5_isLawByTurns_79 rfl <|
 x_iload_n dX5_isLawByTurns_81 rfl <|
 x_icmp_ne (tgt := 89) dX5_isLawByTurns_82 (by decide) (fun c4 => x_iconst dX5_isLawByTurns_89 ic_0 <|
 x_zreturn rfl (Or.inl rfl) dX5_isLawByTurns_90 ⟨_, rfl, (((h.2 c1).1 c3).1 c4)⟩) (fun c4 => x_iconst dX5_isLawByTurns_85 ic_1 <|
 x_goto (tgt := 90) dX5_isLawByTurns_86 (by decide) <|
 x_zreturn rfl (Or.inr rfl) dX5_isLawByTurns_90 ⟨_, rfl, (((h.2 c1).1 c3).2 c4)⟩)) (fun c3 => x_aload_n dX5_isLawByTurns_63 rfl <|
 x_iload dX5_isLawByTurns_64 rfl <|
 x_iload_n dX5_isLawByTurns_66 rfl <|
 x_iload_n dX5_isLawByTurns_67 rfl <|
 x_callV (b := 0) (As := [.int v5, .int v1, .int v2]) (ok_X5_isReachedBy (k + 1)) ml_X5_247 (okM ⟨show 5 + 2 * (k + 1) < 6 + 2 * (k + 1) by omega, Nat.le_of_ble_eq_true rfl⟩) dX5_isLawByTurns_68 rfl rfl (Nat.le_of_ble_eq_true rfl) rfl rfl rfl ((h.2 c1).2 c3) <|
 (kI (fun τ5 r6 h7 => x_istore (L2 := [some (.ref 0), some (.int v1), some (.int v2), some (.int v3), some (.int r6), some (.int v5)]) dX5_isLawByTurns_71 rfl (Nat.le_of_ble_eq_true rfl) <|
 x_iinc (v := (v5 + 1)) (L2 := [some (.ref 0), some (.int v1), some (.int v2), some (.int v3), some (.int r6), some (.int (v5 + 1))]) dX5_isLawByTurns_73 rfl (by rw [show Int32.ofInt (1) = 1 by decide]) rfl (Nat.le_of_ble_eq_true rfl) <|
 x_goto (tgt := 46) dX5_isLawByTurns_76 (by decide) <|
 h7))))
set_option maxRecDepth 100000 in
set_option maxHeartbeats 4000000 in
theorem M_X5_isLawByTurns {E : EV} {Q : Sg → Int32 → Prop} {k : Nat} {σ : Sg} {a1 : Int32} {a2 : Int32} (h : ((0 < a1) → ((¬ (a1 - a1 / (2 : Int32) * (2 : Int32)) = 0) → MetI E (mi_X5_isLawByTurns k) [.ref 0, .int (a1 - (1 : Int32)), .int a2] σ (fun τ3 r4 => ((¬ r4 = (0 : Int32)) → K_X5_isLawByTurns_46 E Q (k + 1) τ3 a1 a2 (0 : Int32) (0 : Int32) (0 : Int32)) ∧ ((r4 = (0 : Int32)) → K_X5_isLawByTurns_46 E Q (k + 1) τ3 a1 a2 (0 : Int32) (1 : Int32) (0 : Int32)))) ∧ (((a1 - a1 / (2 : Int32) * (2 : Int32)) = 0) → MetI E (mi_X5_isLawByTurns k) [.ref 0, .int (a1 - (1 : Int32)), .int a2] σ (fun τ7 r8 => ((¬ r8 = (1 : Int32)) → K_X5_isLawByTurns_46 E Q (k + 1) τ7 a1 a2 (1 : Int32) (0 : Int32) (0 : Int32)) ∧ ((r8 = (1 : Int32)) → K_X5_isLawByTurns_46 E Q (k + 1) τ7 a1 a2 (1 : Int32) (1 : Int32) (0 : Int32))))) ∧ ((¬ 0 < a1) → MetI E mi_X5_isLawIf [.ref 0, .int (0 : Int32), .int (1 : Int32), .int a2] σ (fun τ11 r12 => (r12 = 0 ∨ r12 = 1) ∧ Q τ11 r12))) : MetI E (mi_X5_isLawByTurns (k + 1)) [.ref 0, .int a1, .int a2] σ Q :=
 met_of (L := [some (.ref 0), some (.int a1), some (.int a2), none, none, none]) pn_X5 rfl (Nat.le_of_ble_eq_true rfl) <|
 x_iload_n dX5_isLawByTurns_0 rfl <|
 x_if_gt (tgt := 12) dX5_isLawByTurns_1 (by decide) (fun c1 => x_iload_n dX5_isLawByTurns_12 rfl <|
 x_iconst dX5_isLawByTurns_13 ic_2 <|
 x_irem dX5_isLawByTurns_14 (by decide) <|
 x_if_ne (tgt := 22) dX5_isLawByTurns_15 (by decide) (fun c2 => x_iconst dX5_isLawByTurns_22 ic_0 <|
 x_istore_n (L2 := [some (.ref 0), some (.int a1), some (.int a2), some (.int (0 : Int32)), none, none]) dX5_isLawByTurns_23 rfl (Nat.le_of_ble_eq_true rfl) <|
 x_aload_n dX5_isLawByTurns_24 rfl <|
 x_iload_n dX5_isLawByTurns_25 rfl <|
 x_iconst dX5_isLawByTurns_26 ic_1 <|
 x_isub dX5_isLawByTurns_27 <|
 x_iload_n dX5_isLawByTurns_28 rfl <|
 x_callV (b := 0) (As := [.int (a1 - (1 : Int32)), .int a2]) (ok_X5_isLawByTurns k) ml_X5_173 (okM ⟨show 6 + 2 * k < 6 + 2 * (k + 1) by omega, Nat.le_of_ble_eq_true rfl⟩) dX5_isLawByTurns_29 rfl rfl (Nat.le_of_ble_eq_true rfl) rfl rfl rfl ((h.1 c1).1 c2) <|
 (kI (fun τ3 r4 h5 => x_iload_n dX5_isLawByTurns_32 rfl <|
 x_icmp_ne (tgt := 40) dX5_isLawByTurns_33 (by decide) (fun c6 => x_iconst dX5_isLawByTurns_40 ic_0 <|
 x_istore (L2 := [some (.ref 0), some (.int a1), some (.int a2), some (.int (0 : Int32)), some (.int (0 : Int32)), none]) dX5_isLawByTurns_41 rfl (Nat.le_of_ble_eq_true rfl) <|
 x_iconst dX5_isLawByTurns_43 ic_0 <|
 x_istore (L2 := [some (.ref 0), some (.int a1), some (.int a2), some (.int (0 : Int32)), some (.int (0 : Int32)), some (.int (0 : Int32))]) dX5_isLawByTurns_44 rfl (Nat.le_of_ble_eq_true rfl) <|
 (h5.1 c6)) (fun c6 => x_iconst dX5_isLawByTurns_36 ic_1 <|
 x_goto (tgt := 41) dX5_isLawByTurns_37 (by decide) <|
 x_istore (L2 := [some (.ref 0), some (.int a1), some (.int a2), some (.int (0 : Int32)), some (.int (1 : Int32)), none]) dX5_isLawByTurns_41 rfl (Nat.le_of_ble_eq_true rfl) <|
 x_iconst dX5_isLawByTurns_43 ic_0 <|
 x_istore (L2 := [some (.ref 0), some (.int a1), some (.int a2), some (.int (0 : Int32)), some (.int (1 : Int32)), some (.int (0 : Int32))]) dX5_isLawByTurns_44 rfl (Nat.le_of_ble_eq_true rfl) <|
 (h5.2 c6))))) (fun c2 => x_iconst dX5_isLawByTurns_18 ic_1 <|
 x_goto (tgt := 23) dX5_isLawByTurns_19 (by decide) <|
 x_istore_n (L2 := [some (.ref 0), some (.int a1), some (.int a2), some (.int (1 : Int32)), none, none]) dX5_isLawByTurns_23 rfl (Nat.le_of_ble_eq_true rfl) <|
 x_aload_n dX5_isLawByTurns_24 rfl <|
 x_iload_n dX5_isLawByTurns_25 rfl <|
 x_iconst dX5_isLawByTurns_26 ic_1 <|
 x_isub dX5_isLawByTurns_27 <|
 x_iload_n dX5_isLawByTurns_28 rfl <|
 x_callV (b := 0) (As := [.int (a1 - (1 : Int32)), .int a2]) (ok_X5_isLawByTurns k) ml_X5_173 (okM ⟨show 6 + 2 * k < 6 + 2 * (k + 1) by omega, Nat.le_of_ble_eq_true rfl⟩) dX5_isLawByTurns_29 rfl rfl (Nat.le_of_ble_eq_true rfl) rfl rfl rfl ((h.1 c1).2 c2) <|
 (kI (fun τ7 r8 h9 => x_iload_n dX5_isLawByTurns_32 rfl <|
 x_icmp_ne (tgt := 40) dX5_isLawByTurns_33 (by decide) (fun c10 => x_iconst dX5_isLawByTurns_40 ic_0 <|
 x_istore (L2 := [some (.ref 0), some (.int a1), some (.int a2), some (.int (1 : Int32)), some (.int (0 : Int32)), none]) dX5_isLawByTurns_41 rfl (Nat.le_of_ble_eq_true rfl) <|
 x_iconst dX5_isLawByTurns_43 ic_0 <|
 x_istore (L2 := [some (.ref 0), some (.int a1), some (.int a2), some (.int (1 : Int32)), some (.int (0 : Int32)), some (.int (0 : Int32))]) dX5_isLawByTurns_44 rfl (Nat.le_of_ble_eq_true rfl) <|
 (h9.1 c10)) (fun c10 => x_iconst dX5_isLawByTurns_36 ic_1 <|
 x_goto (tgt := 41) dX5_isLawByTurns_37 (by decide) <|
 x_istore (L2 := [some (.ref 0), some (.int a1), some (.int a2), some (.int (1 : Int32)), some (.int (1 : Int32)), none]) dX5_isLawByTurns_41 rfl (Nat.le_of_ble_eq_true rfl) <|
 x_iconst dX5_isLawByTurns_43 ic_0 <|
 x_istore (L2 := [some (.ref 0), some (.int a1), some (.int a2), some (.int (1 : Int32)), some (.int (1 : Int32)), some (.int (0 : Int32))]) dX5_isLawByTurns_44 rfl (Nat.le_of_ble_eq_true rfl) <|
 (h9.2 c10)))))) (fun c1 => x_aload_n dX5_isLawByTurns_4 rfl <|
 x_iconst dX5_isLawByTurns_5 ic_0 <|
 x_iconst dX5_isLawByTurns_6 ic_1 <|
 x_iload_n dX5_isLawByTurns_7 rfl <|
 x_callV (b := 0) (As := [.int (0 : Int32), .int (1 : Int32), .int a2]) ok_X5_isLawIf ml_X5_188 (okM ⟨show 5 < 6 + 2 * (k + 1) by omega, Nat.le_of_ble_eq_true rfl⟩) dX5_isLawByTurns_8 rfl rfl (Nat.le_of_ble_eq_true rfl) rfl rfl rfl (h.2 c1) <|
 (kI (fun τ11 r12 h13 => x_zreturn rfl h13.1 dX5_isLawByTurns_11 ⟨_, rfl, h13.2⟩)))
set_option maxRecDepth 100000 in
set_option maxHeartbeats 4000000 in
theorem M0_X5_isLawByTurns {E : EV} {Q : Sg → Int32 → Prop} {σ : Sg} {a1 : Int32} {a2 : Int32} (hf : ¬ 0 < a1) (h : MetI E mi_X5_isLawIf [.ref 0, .int (0 : Int32), .int (1 : Int32), .int a2] σ (fun τ1 r2 => (r2 = 0 ∨ r2 = 1) ∧ Q τ1 r2)) : MetI E (mi_X5_isLawByTurns 0) [.ref 0, .int a1, .int a2] σ Q :=
 met_of (L := [some (.ref 0), some (.int a1), some (.int a2), none, none, none]) pn_X5 rfl (Nat.le_of_ble_eq_true rfl) <|
 x_iload_n dX5_isLawByTurns_0 rfl <|
 x_if_gt (tgt := 12) dX5_isLawByTurns_1 (by decide) (fun c => absurd c hf) (fun _ => x_aload_n dX5_isLawByTurns_4 rfl <|
 x_iconst dX5_isLawByTurns_5 ic_0 <|
 x_iconst dX5_isLawByTurns_6 ic_1 <|
 x_iload_n dX5_isLawByTurns_7 rfl <|
 x_callV (b := 0) (As := [.int (0 : Int32), .int (1 : Int32), .int a2]) ok_X5_isLawIf ml_X5_188 (okM ⟨show 5 < 6 + 2 * 0 by omega, Nat.le_of_ble_eq_true rfl⟩) dX5_isLawByTurns_8 rfl rfl (Nat.le_of_ble_eq_true rfl) rfl rfl rfl h <|
 (kI (fun τ1 r2 h3 => x_zreturn rfl h3.1 dX5_isLawByTurns_11 ⟨_, rfl, h3.2⟩)))
set_option maxRecDepth 100000 in
set_option maxHeartbeats 4000000 in
theorem M_X5_isReachedBy {E : EV} {Q : Sg → Int32 → Prop} {k : Nat} {σ : Sg} {a1 : Int32} {a2 : Int32} {a3 : Int32} (h : ((¬ (a2 - a2 / (2 : Int32) * (2 : Int32)) = 0) → vp_in a1 8 ∧ MetI E mi_X3_choose [.ref 32, .int a1, .int (0 : Int32)] σ (fun τ2 r3 => ((¬ r3 = 0) → MetI E (mi_X5_isLawByTurns k) [.ref 0, .int (a2 - (1 : Int32)), .int a3] τ2 (fun τ6 r7 => ((¬ r7 = (0 : Int32)) → Q (sm (sm τ6 34 a1.toNatClampNeg ((gm σ 34) a1.toNatClampNeg)) 35 a1.toNatClampNeg ((gm σ 35) a1.toNatClampNeg)) (0 : Int32)) ∧ ((r7 = (0 : Int32)) → Q (sm (sm τ6 34 a1.toNatClampNeg ((gm σ 34) a1.toNatClampNeg)) 35 a1.toNatClampNeg ((gm σ 35) a1.toNatClampNeg)) (1 : Int32)))) ∧ ((r3 = 0) → Q τ2 (0 : Int32)))) ∧ (((a2 - a2 / (2 : Int32) * (2 : Int32)) = 0) → vp_in a1 8 ∧ MetI E mi_X3_choose [.ref 32, .int a1, .int (1 : Int32)] σ (fun τ10 r11 => ((¬ r11 = 0) → MetI E (mi_X5_isLawByTurns k) [.ref 0, .int (a2 - (1 : Int32)), .int a3] τ10 (fun τ14 r15 => ((¬ r15 = (1 : Int32)) → Q (sm (sm τ14 34 a1.toNatClampNeg ((gm σ 34) a1.toNatClampNeg)) 35 a1.toNatClampNeg ((gm σ 35) a1.toNatClampNeg)) (0 : Int32)) ∧ ((r15 = (1 : Int32)) → Q (sm (sm τ14 34 a1.toNatClampNeg ((gm σ 34) a1.toNatClampNeg)) 35 a1.toNatClampNeg ((gm σ 35) a1.toNatClampNeg)) (1 : Int32)))) ∧ ((r11 = 0) → Q τ10 (0 : Int32))))) : MetI E (mi_X5_isReachedBy (k + 1)) [.ref 0, .int a1, .int a2, .int a3] σ Q :=
 met_of (L := [some (.ref 0), some (.int a1), some (.int a2), some (.int a3), none, none, none, none]) pn_X5 rfl (Nat.le_of_ble_eq_true rfl) <|
 x_iload_n dX5_isReachedBy_0 rfl <|
 x_iconst dX5_isReachedBy_1 ic_2 <|
 x_irem dX5_isReachedBy_2 (by decide) <|
 x_if_ne (tgt := 10) dX5_isReachedBy_3 (by decide) (fun c1 => x_iconst dX5_isReachedBy_10 ic_0 <|
 x_istore (L2 := [some (.ref 0), some (.int a1), some (.int a2), some (.int a3), some (.int (0 : Int32)), none, none, none]) dX5_isReachedBy_11 rfl (Nat.le_of_ble_eq_true rfl) <|
 x_aload_n dX5_isReachedBy_13 rfl <|
 x_getf (v := .ref 32) fl_X5_55 rfl rfl rfl dX5_isReachedBy_14 <|
 x_getf (v := .ref 34) fl_X5_131 rfl rfl rfl dX5_isReachedBy_17 <|
 x_iload_n dX5_isReachedBy_20 rfl <|
 x_iaload (v := ((gm σ 34) a1.toNatClampNeg)) rfl (h.1 c1).1 rfl dX5_isReachedBy_21 <|
 x_istore (L2 := [some (.ref 0), some (.int a1), some (.int a2), some (.int a3), some (.int (0 : Int32)), some (.int ((gm σ 34) a1.toNatClampNeg)), none, none]) dX5_isReachedBy_22 rfl (Nat.le_of_ble_eq_true rfl) <|
 x_aload_n dX5_isReachedBy_24 rfl <|
 x_getf (v := .ref 32) fl_X5_55 rfl rfl rfl dX5_isReachedBy_25 <|
 x_getf (v := .ref 35) fl_X5_134 rfl rfl rfl dX5_isReachedBy_28 <|
 x_iload_n dX5_isReachedBy_31 rfl <|
 x_iaload (v := ((gm σ 35) a1.toNatClampNeg)) rfl (h.1 c1).1 rfl dX5_isReachedBy_32 <|
 x_istore (L2 := [some (.ref 0), some (.int a1), some (.int a2), some (.int a3), some (.int (0 : Int32)), some (.int ((gm σ 34) a1.toNatClampNeg)), some (.int ((gm σ 35) a1.toNatClampNeg)), none]) dX5_isReachedBy_33 rfl (Nat.le_of_ble_eq_true rfl) <|
 x_aload_n dX5_isReachedBy_35 rfl <|
 x_getf (v := .ref 32) fl_X5_55 rfl rfl rfl dX5_isReachedBy_36 <|
 x_iload_n dX5_isReachedBy_39 rfl <|
 x_iload dX5_isReachedBy_40 rfl <|
 x_callV (b := 32) (As := [.int a1, .int (0 : Int32)]) ok_X3_choose ml_X5_240 (okM ⟨show 2 < 5 + 2 * (k + 1) by omega, Nat.le_of_ble_eq_true rfl⟩) dX5_isReachedBy_42 rfl rfl (Nat.le_of_ble_eq_true rfl) rfl rfl rfl (h.1 c1).2 <|
 (kI (fun τ2 r3 h4 => x_if_ne (tgt := 50) dX5_isReachedBy_45 (by decide) (fun c5 => x_aload_n dX5_isReachedBy_50 rfl <|
 x_iload_n dX5_isReachedBy_51 rfl <|
 x_iconst dX5_isReachedBy_52 ic_1 <|
 x_isub dX5_isReachedBy_53 <|
 x_iload_n dX5_isReachedBy_54 rfl <|
 x_callV (b := 0) (As := [.int (a2 - (1 : Int32)), .int a3]) (ok_X5_isLawByTurns k) ml_X5_173 (okM ⟨show 6 + 2 * k < 5 + 2 * (k + 1) by omega, Nat.le_of_ble_eq_true rfl⟩) dX5_isReachedBy_55 rfl rfl (Nat.le_of_ble_eq_true rfl) rfl rfl rfl (h4.1 c5) <|
 (kI (fun τ6 r7 h8 => x_istore (L2 := [some (.ref 0), some (.int a1), some (.int a2), some (.int a3), some (.int (0 : Int32)), some (.int ((gm σ 34) a1.toNatClampNeg)), some (.int ((gm σ 35) a1.toNatClampNeg)), some (.int r7)]) dX5_isReachedBy_58 rfl (Nat.le_of_ble_eq_true rfl) <|
 x_aload_n dX5_isReachedBy_60 rfl <|
 x_getf (v := .ref 32) fl_X5_55 rfl rfl rfl dX5_isReachedBy_61 <|
 x_getf (v := .ref 34) fl_X5_131 rfl rfl rfl dX5_isReachedBy_64 <|
 x_iload_n dX5_isReachedBy_67 rfl <|
 x_iload dX5_isReachedBy_68 rfl <|
 x_iastore rfl (h.1 c1).1 dX5_isReachedBy_70 <|
 x_aload_n dX5_isReachedBy_71 rfl <|
 x_getf (v := .ref 32) fl_X5_55 rfl rfl rfl dX5_isReachedBy_72 <|
 x_getf (v := .ref 35) fl_X5_134 rfl rfl rfl dX5_isReachedBy_75 <|
 x_iload_n dX5_isReachedBy_78 rfl <|
 x_iload dX5_isReachedBy_79 rfl <|
 x_iastore rfl (h.1 c1).1 dX5_isReachedBy_81 <|
 x_iload dX5_isReachedBy_82 rfl <|
 x_iload dX5_isReachedBy_84 rfl <|
 x_icmp_ne (tgt := 93) dX5_isReachedBy_86 (by decide) (fun c9 => x_iconst dX5_isReachedBy_93 ic_0 <|
 x_zreturn rfl (Or.inl rfl) dX5_isReachedBy_94 ⟨_, rfl, (h8.1 c9)⟩) (fun c9 => x_iconst dX5_isReachedBy_89 ic_1 <|
 x_goto (tgt := 94) dX5_isReachedBy_90 (by decide) <|
 x_zreturn rfl (Or.inr rfl) dX5_isReachedBy_94 ⟨_, rfl, (h8.2 c9)⟩)))) (fun c5 => x_iconst dX5_isReachedBy_48 ic_0 <|
 x_zreturn rfl (Or.inl rfl) dX5_isReachedBy_49 ⟨_, rfl, (h4.2 c5)⟩)))) (fun c1 => x_iconst dX5_isReachedBy_6 ic_1 <|
 x_goto (tgt := 11) dX5_isReachedBy_7 (by decide) <|
 x_istore (L2 := [some (.ref 0), some (.int a1), some (.int a2), some (.int a3), some (.int (1 : Int32)), none, none, none]) dX5_isReachedBy_11 rfl (Nat.le_of_ble_eq_true rfl) <|
 x_aload_n dX5_isReachedBy_13 rfl <|
 x_getf (v := .ref 32) fl_X5_55 rfl rfl rfl dX5_isReachedBy_14 <|
 x_getf (v := .ref 34) fl_X5_131 rfl rfl rfl dX5_isReachedBy_17 <|
 x_iload_n dX5_isReachedBy_20 rfl <|
 x_iaload (v := ((gm σ 34) a1.toNatClampNeg)) rfl (h.2 c1).1 rfl dX5_isReachedBy_21 <|
 x_istore (L2 := [some (.ref 0), some (.int a1), some (.int a2), some (.int a3), some (.int (1 : Int32)), some (.int ((gm σ 34) a1.toNatClampNeg)), none, none]) dX5_isReachedBy_22 rfl (Nat.le_of_ble_eq_true rfl) <|
 x_aload_n dX5_isReachedBy_24 rfl <|
 x_getf (v := .ref 32) fl_X5_55 rfl rfl rfl dX5_isReachedBy_25 <|
 x_getf (v := .ref 35) fl_X5_134 rfl rfl rfl dX5_isReachedBy_28 <|
 x_iload_n dX5_isReachedBy_31 rfl <|
 x_iaload (v := ((gm σ 35) a1.toNatClampNeg)) rfl (h.2 c1).1 rfl dX5_isReachedBy_32 <|
 x_istore (L2 := [some (.ref 0), some (.int a1), some (.int a2), some (.int a3), some (.int (1 : Int32)), some (.int ((gm σ 34) a1.toNatClampNeg)), some (.int ((gm σ 35) a1.toNatClampNeg)), none]) dX5_isReachedBy_33 rfl (Nat.le_of_ble_eq_true rfl) <|
 x_aload_n dX5_isReachedBy_35 rfl <|
 x_getf (v := .ref 32) fl_X5_55 rfl rfl rfl dX5_isReachedBy_36 <|
 x_iload_n dX5_isReachedBy_39 rfl <|
 x_iload dX5_isReachedBy_40 rfl <|
 x_callV (b := 32) (As := [.int a1, .int (1 : Int32)]) ok_X3_choose ml_X5_240 (okM ⟨show 2 < 5 + 2 * (k + 1) by omega, Nat.le_of_ble_eq_true rfl⟩) dX5_isReachedBy_42 rfl rfl (Nat.le_of_ble_eq_true rfl) rfl rfl rfl (h.2 c1).2 <|
 (kI (fun τ10 r11 h12 => x_if_ne (tgt := 50) dX5_isReachedBy_45 (by decide) (fun c13 => x_aload_n dX5_isReachedBy_50 rfl <|
 x_iload_n dX5_isReachedBy_51 rfl <|
 x_iconst dX5_isReachedBy_52 ic_1 <|
 x_isub dX5_isReachedBy_53 <|
 x_iload_n dX5_isReachedBy_54 rfl <|
 x_callV (b := 0) (As := [.int (a2 - (1 : Int32)), .int a3]) (ok_X5_isLawByTurns k) ml_X5_173 (okM ⟨show 6 + 2 * k < 5 + 2 * (k + 1) by omega, Nat.le_of_ble_eq_true rfl⟩) dX5_isReachedBy_55 rfl rfl (Nat.le_of_ble_eq_true rfl) rfl rfl rfl (h12.1 c13) <|
 (kI (fun τ14 r15 h16 => x_istore (L2 := [some (.ref 0), some (.int a1), some (.int a2), some (.int a3), some (.int (1 : Int32)), some (.int ((gm σ 34) a1.toNatClampNeg)), some (.int ((gm σ 35) a1.toNatClampNeg)), some (.int r15)]) dX5_isReachedBy_58 rfl (Nat.le_of_ble_eq_true rfl) <|
 x_aload_n dX5_isReachedBy_60 rfl <|
 x_getf (v := .ref 32) fl_X5_55 rfl rfl rfl dX5_isReachedBy_61 <|
 x_getf (v := .ref 34) fl_X5_131 rfl rfl rfl dX5_isReachedBy_64 <|
 x_iload_n dX5_isReachedBy_67 rfl <|
 x_iload dX5_isReachedBy_68 rfl <|
 x_iastore rfl (h.2 c1).1 dX5_isReachedBy_70 <|
 x_aload_n dX5_isReachedBy_71 rfl <|
 x_getf (v := .ref 32) fl_X5_55 rfl rfl rfl dX5_isReachedBy_72 <|
 x_getf (v := .ref 35) fl_X5_134 rfl rfl rfl dX5_isReachedBy_75 <|
 x_iload_n dX5_isReachedBy_78 rfl <|
 x_iload dX5_isReachedBy_79 rfl <|
 x_iastore rfl (h.2 c1).1 dX5_isReachedBy_81 <|
 x_iload dX5_isReachedBy_82 rfl <|
 x_iload dX5_isReachedBy_84 rfl <|
 x_icmp_ne (tgt := 93) dX5_isReachedBy_86 (by decide) (fun c17 => x_iconst dX5_isReachedBy_93 ic_0 <|
 x_zreturn rfl (Or.inl rfl) dX5_isReachedBy_94 ⟨_, rfl, (h16.1 c17)⟩) (fun c17 => x_iconst dX5_isReachedBy_89 ic_1 <|
 x_goto (tgt := 94) dX5_isReachedBy_90 (by decide) <|
 x_zreturn rfl (Or.inr rfl) dX5_isReachedBy_94 ⟨_, rfl, (h16.2 c17)⟩)))) (fun c13 => x_iconst dX5_isReachedBy_48 ic_0 <|
 x_zreturn rfl (Or.inl rfl) dX5_isReachedBy_49 ⟨_, rfl, (h12.2 c13)⟩))))
