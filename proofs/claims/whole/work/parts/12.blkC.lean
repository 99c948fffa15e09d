set_option maxRecDepth 100000 in
set_option maxHeartbeats 4000000 in
theorem M_X6_in {E : EV} {Q : Sg → Int32 → Prop} {σ : Sg} {a1 : Int32} {a2 : Int32} {a3 : Int32} (h : ((a1 < a2) → Q σ (0 : Int32)) ∧ ((¬ a1 < a2) → ((a3 < a1) → Q σ (0 : Int32)) ∧ ((¬ a3 < a1) → Q σ (1 : Int32)))) : MetI E mi_X6_in [.int a1, .int a2, .int a3] σ Q :=
 met_of (L := [some (.int a1), some (.int a2), some (.int a3)]) pn_X6 rfl (Nat.le_of_ble_eq_true rfl) <|
 x_iload_n dX6_in_0 rfl <|
 x_iload_n dX6_in_1 rfl <|
 x_icmp_lt (tgt := 14) dX6_in_2 (by decide) (fun c1 => x_iconst dX6_in_14 ic_0 <|
 x_zreturn rfl (Or.inl rfl) dX6_in_15 ⟨_, rfl, (h.1 c1)⟩) (fun c1 => x_iload_n dX6_in_5 rfl <|
 x_iload_n dX6_in_6 rfl <|
 x_icmp_gt (tgt := 14) dX6_in_7 (by decide) (fun c2 => x_iconst dX6_in_14 ic_0 <|
 x_zreturn rfl (Or.inl rfl) dX6_in_15 ⟨_, rfl, ((h.2 c1).1 c2)⟩) (fun c2 => x_iconst dX6_in_10 ic_1 <|
 x_goto (tgt := 15) dX6_in_11 (by decide) <|
 x_zreturn rfl (Or.inr rfl) dX6_in_15 ⟨_, rfl, ((h.2 c1).2 c2)⟩))
def K_X6_type_32 (E : EV) (Q : Sg → Int32 → Prop) (σ : Sg) (v1 : Int64) (v3 : Int32) (v4 : Int32) : Prop := J E mi_X6_type (tgM E mi_X6_type (qI Q)) 32 [some (.ref 40), some (.long v1), none, some (.int v3), some (.int v4)] [] σ
set_option maxRecDepth 100000 in
set_option maxHeartbeats 4000000 in
theorem B_X6_type_32 {E : EV} {Q : Sg → Int32 → Prop} {σ : Sg} {v1 : Int64} {v3 : Int32} {v4 : Int32} (h : ((v4 < 0) → Q σ (gi σ 4002)) ∧ ((¬ v4 < 0) → vp_in (gi σ 4002) 400 ∧ K_X6_type_32 E Q (si (sm σ 41 (gi σ 4002).toNatClampNeg (vp_nar .byte ((((v1 >>> (((8 : Int32) * v4).toInt64 &&& 63)) &&& (255 : Int64)).toInt32).toInt8.toInt32))) 4002 ((gi σ 4002) + (1 : Int32))) v1 v3 (v4 + (-1)))) : K_X6_type_32 E Q σ v1 v3 v4 :=
 x_iload dX6_type_32 rfl <|
 x_if_lt (tgt := 75) dX6_type_34 (by decide) (fun c1 => x_aload_n dX6_type_75 rfl <|
 x_getf (v := .int (gi σ 4002)) fl_X6_67 rfl rfl rfl dX6_type_76 <|
 x_ireturn rfl dX6_type_79 ⟨_, rfl, (h.1 c1)⟩) (fun c1 => x_aload_n dX6_type_37 rfl <|
 x_getf (v := .ref 41) fl_X6_7 rfl rfl rfl dX6_type_38 <|
 x_aload_n dX6_type_41 rfl <|
 x_getf (v := .int (gi σ 4002)) fl_X6_67 rfl rfl rfl dX6_type_42 <|
 x_lload_n dX6_type_45 rfl <|
 x_bipush dX6_type_46 bp_8 <|
 x_iload dX6_type_48 rfl <|
 x_imul dX6_type_50 <|
 x_lshr dX6_type_51 <|
 x_ldc2 kc_X6_71 dX6_type_52 <|
 x_land dX6_type_55 <|
 x_l2i dX6_type_56 <|
 x_i2b dX6_type_57 <|
 x_bastore rfl (h.2 c1).1 dX6_type_58 <|
 x_aload_n dX6_type_59 rfl <|
 x_dup dX6_type_60 rfl <|
 x_getf (v := .int (gi σ 4002)) fl_X6_67 rfl rfl rfl dX6_type_61 <|
 x_iconst dX6_type_64 ic_1 <|
 x_iadd dX6_type_65 <|
 x_puti fp_X6_67 rfl rfl dX6_type_66 <|
 x_iinc (v := (v4 + (-1))) (L2 := [some (.ref 40), some (.long v1), none, some (.int v3), some (.int (v4 + (-1)))]) dX6_type_69 rfl (by rw [show Int32.ofInt (-1) = -1 by decide]) rfl (Nat.le_of_ble_eq_true rfl) <|
 x_goto (tgt := 32) dX6_type_72 (by decide) <|
 (h.2 c1).2)
set_option maxRecDepth 100000 in
set_option maxHeartbeats 4000000 in
theorem M_X6_type {E : EV} {Q : Sg → Int32 → Prop} {σ : Sg} {a1 : Int64} {a2 : Int32} (h : MetI E mi_X6_in [.int a2, .int (1 : Int32), .int (8 : Int32)] σ (fun τ1 r2 => ((¬ r2 = 0) → ((((gi τ1 4002) + a2) ≤ (400 : Int32)) → K_X6_type_32 E Q τ1 a1 a2 (a2 - (1 : Int32))) ∧ ((¬ ((gi τ1 4002) + a2) ≤ (400 : Int32)) → Q τ1 (-3 : Int32))) ∧ ((r2 = 0) → Q τ1 (-1 : Int32)))) : MetI E mi_X6_type [.ref 40, .long a1, .int a2] σ Q :=
 met_of (L := [some (.ref 40), some (.long a1), none, some (.int a2), none]) pn_X6 rfl (Nat.le_of_ble_eq_true rfl) <|
 x_iload_n dX6_type_0 rfl <|
 x_iconst dX6_type_1 ic_1 <|
 x_bipush dX6_type_2 bp_8 <|
 x_callS (As := [.int a2, .int (1 : Int32), .int (8 : Int32)]) ok_X6_in ml_X6_63 (okM (by decide)) dX6_type_4 rfl rfl (Nat.le_of_ble_eq_true rfl) h <|
 (kI (fun τ1 r2 h3 => x_if_ne (tgt := 12) dX6_type_7 (by decide) (fun c4 => x_aload_n dX6_type_12 rfl <|
 x_getf (v := .int (gi τ1 4002)) fl_X6_67 rfl rfl rfl dX6_type_13 <|
 x_iload_n dX6_type_16 rfl <|
 x_iadd dX6_type_17 <|
 x_sipush dX6_type_18 sp_400 <|
 x_icmp_le (tgt := 27) dX6_type_21 (by decide) (fun c5 => x_iload_n dX6_type_27 rfl <|
 x_iconst dX6_type_28 ic_1 <|
 x_isub dX6_type_29 <|
 x_istore (L2 := [some (.ref 40), some (.long a1), none, some (.int a2), some (.int (a2 - (1 : Int32)))]) dX6_type_30 rfl (Nat.le_of_ble_eq_true rfl) <|
 ((h3.1 c4).1 c5)) (fun c5 => x_bipush dX6_type_24 bp_m3 <|
 x_ireturn rfl dX6_type_26 ⟨_, rfl, ((h3.1 c4).2 c5)⟩)) (fun c4 => x_iconst dX6_type_10 ic_m1 <|
 x_ireturn rfl dX6_type_11 ⟨_, rfl, (h3.2 c4)⟩)))
set_option maxRecDepth 100000 in
set_option maxHeartbeats 4000000 in
theorem M_X6_clear {E : EV} {Q : Sg → Int32 → Prop} {σ : Sg} (h : Q (si σ 4002 (0 : Int32)) (gi σ 4002)) : MetI E mi_X6_clear [.ref 40] σ Q :=
 met_of (L := [some (.ref 40), none]) pn_X6 rfl (Nat.le_of_ble_eq_true rfl) <|
 x_aload_n dX6_clear_0 rfl <|
 x_getf (v := .int (gi σ 4002)) fl_X6_67 rfl rfl rfl dX6_clear_1 <|
 x_istore_n (L2 := [some (.ref 40), some (.int (gi σ 4002))]) dX6_clear_4 rfl (Nat.le_of_ble_eq_true rfl) <|
 x_aload_n dX6_clear_5 rfl <|
 x_iconst dX6_clear_6 ic_0 <|
 x_puti fp_X6_67 rfl rfl dX6_clear_7 <|
 x_iload_n dX6_clear_10 rfl <|
 x_ireturn rfl dX6_clear_11 ⟨_, rfl, h⟩
set_option maxRecDepth 100000 in
set_option maxHeartbeats 4000000 in
theorem M_X6_here {E : EV} {Q : Sg → Int32 → Prop} {σ : Sg} (h : (((gi σ 4002) ≤ (gi σ 4012)) → Q σ (-1 : Int32)) ∧ ((¬ (gi σ 4002) ≤ (gi σ 4012)) → vp_in (gi σ 4012) 400 ∧ Q σ (((gm σ 41) (gi σ 4012).toNatClampNeg) &&& (255 : Int32)))) : MetI E mi_X6_here [.ref 40] σ Q :=
 met_of (L := [some (.ref 40)]) pn_X6 rfl (Nat.le_of_ble_eq_true rfl) <|
 x_aload_n dX6_here_0 rfl <|
 x_getf (v := .int (gi σ 4012)) fl_X6_73 rfl rfl rfl dX6_here_1 <|
 x_aload_n dX6_here_4 rfl <|
 x_getf (v := .int (gi σ 4002)) fl_X6_67 rfl rfl rfl dX6_here_5 <|
 x_icmp_ge (tgt := 27) dX6_here_8 (by decide) (fun c1 => x_iconst dX6_here_27 ic_m1 <|
 x_ireturn rfl dX6_here_28 ⟨_, rfl, (h.1 c1)⟩) (fun c1 => x_aload_n dX6_here_11 rfl <|
 x_getf (v := .ref 41) fl_X6_7 rfl rfl rfl dX6_here_12 <|
 x_aload_n dX6_here_15 rfl <|
 x_getf (v := .int (gi σ 4012)) fl_X6_73 rfl rfl rfl dX6_here_16 <|
 x_baload (v := ((gm σ 41) (gi σ 4012).toNatClampNeg)) rfl (h.2 c1).1 rfl dX6_here_19 <|
 x_sipush dX6_here_20 sp_255 <|
 x_iand dX6_here_23 <|
 x_goto (tgt := 28) dX6_here_24 (by decide) <|
 x_ireturn rfl dX6_here_28 ⟨_, rfl, (h.2 c1).2⟩)
set_option maxRecDepth 100000 in
set_option maxHeartbeats 4000000 in
theorem M_X6_meaning {E : EV} {Q : Sg → Int32 → Prop} {σ : Sg} {a1 : Int32} (h : ((a1 = 13903) → Q σ (3 : Int32)) ∧ ((¬ a1 = 13903) → ((a1 = 267413) → Q σ (4 : Int32)) ∧ ((¬ a1 = 267413) → ((a1 = 394724) → Q σ (0 : Int32)) ∧ ((¬ a1 = 394724) → ((a1 = 6946700) → Q σ (1 : Int32)) ∧ ((¬ a1 = 6946700) → ((a1 = 10793234) → Q σ (2 : Int32)) ∧ ((¬ a1 = 10793234) → ((a1 = 232608281) → Q σ (5 : Int32)) ∧ ((¬ a1 = 232608281) → Q σ (9 : Int32)))))))) : MetI E mi_X6_meaning [.int a1] σ Q :=
 met_of (L := [some (.int a1)]) pn_X6 rfl (Nat.le_of_ble_eq_true rfl) <|
 x_iload_n dX6_meaning_0 rfl <|
 (Decidable.byCases (fun c1 : a1 = 13903 => x_lookup (tgt := 66) dX6_meaning_1 rfl (by rw [show (#[(13903, 65), (267413, 67), (394724, 59), (6946700, 61), (10793234, 63), (232608281, 69)] : Array (Int × Int)).toList = [(13903, 65), (267413, 67), (394724, 59), (6946700, 61), (10793234, 63), (232608281, 69)] from rfl, c1]; decide) <|
 x_iconst dX6_meaning_66 ic_3 <|
 x_ireturn rfl dX6_meaning_67 ⟨_, rfl, (h.1 c1)⟩)
 (fun c1 : ¬ a1 = 13903 => (Decidable.byCases (fun c2 : a1 = 267413 => x_lookup (tgt := 68) dX6_meaning_1 rfl (by rw [show (#[(13903, 65), (267413, 67), (394724, 59), (6946700, 61), (10793234, 63), (232608281, 69)] : Array (Int × Int)).toList = [(13903, 65), (267413, 67), (394724, 59), (6946700, 61), (10793234, 63), (232608281, 69)] from rfl, lv_osw c1 (by decide), c2]; decide) <|
 x_iconst dX6_meaning_68 ic_4 <|
 x_ireturn rfl dX6_meaning_69 ⟨_, rfl, ((h.2 c1).1 c2)⟩)
 (fun c2 : ¬ a1 = 267413 => (Decidable.byCases (fun c3 : a1 = 394724 => x_lookup (tgt := 60) dX6_meaning_1 rfl (by rw [show (#[(13903, 65), (267413, 67), (394724, 59), (6946700, 61), (10793234, 63), (232608281, 69)] : Array (Int × Int)).toList = [(13903, 65), (267413, 67), (394724, 59), (6946700, 61), (10793234, 63), (232608281, 69)] from rfl, lv_osw c1 (by decide), lv_osw c2 (by decide), c3]; decide) <|
 x_iconst dX6_meaning_60 ic_0 <|
 x_ireturn rfl dX6_meaning_61 ⟨_, rfl, (((h.2 c1).2 c2).1 c3)⟩)
 (fun c3 : ¬ a1 = 394724 => (Decidable.byCases (fun c4 : a1 = 6946700 => x_lookup (tgt := 62) dX6_meaning_1 rfl (by rw [show (#[(13903, 65), (267413, 67), (394724, 59), (6946700, 61), (10793234, 63), (232608281, 69)] : Array (Int × Int)).toList = [(13903, 65), (267413, 67), (394724, 59), (6946700, 61), (10793234, 63), (232608281, 69)] from rfl, lv_osw c1 (by decide), lv_osw c2 (by decide), lv_osw c3 (by decide), c4]; decide) <|
 x_iconst dX6_meaning_62 ic_1 <|
 x_ireturn rfl dX6_meaning_63 ⟨_, rfl, ((((h.2 c1).2 c2).2 c3).1 c4)⟩)
 (fun c4 : ¬ a1 = 6946700 => (Decidable.byCases (fun c5 : a1 = 10793234 => x_lookup (tgt := 64) dX6_meaning_1 rfl (by rw [show (#[(13903, 65), (267413, 67), (394724, 59), (6946700, 61), (10793234, 63), (232608281, 69)] : Array (Int × Int)).toList = [(13903, 65), (267413, 67), (394724, 59), (6946700, 61), (10793234, 63), (232608281, 69)] from rfl, lv_osw c1 (by decide), lv_osw c2 (by decide), lv_osw c3 (by decide), lv_osw c4 (by decide), c5]; decide) <|
 x_iconst dX6_meaning_64 ic_2 <|
 x_ireturn rfl dX6_meaning_65 ⟨_, rfl, (((((h.2 c1).2 c2).2 c3).2 c4).1 c5)⟩)
 (fun c5 : ¬ a1 = 10793234 => (Decidable.byCases (fun c6 : a1 = 232608281 => x_lookup (tgt := 70) dX6_meaning_1 rfl (by rw [show (#[(13903, 65), (267413, 67), (394724, 59), (6946700, 61), (10793234, 63), (232608281, 69)] : Array (Int × Int)).toList = [(13903, 65), (267413, 67), (394724, 59), (6946700, 61), (10793234, 63), (232608281, 69)] from rfl, lv_osw c1 (by decide), lv_osw c2 (by decide), lv_osw c3 (by decide), lv_osw c4 (by decide), lv_osw c5 (by decide), c6]; decide) <|
 x_iconst dX6_meaning_70 ic_5 <|
 x_ireturn rfl dX6_meaning_71 ⟨_, rfl, ((((((h.2 c1).2 c2).2 c3).2 c4).2 c5).1 c6)⟩)
 (fun c6 : ¬ a1 = 232608281 => x_lookup (tgt := 72) dX6_meaning_1 rfl (by rw [show (#[(13903, 65), (267413, 67), (394724, 59), (6946700, 61), (10793234, 63), (232608281, 69)] : Array (Int × Int)).toList = [(13903, 65), (267413, 67), (394724, 59), (6946700, 61), (10793234, 63), (232608281, 69)] from rfl, lv_osw c1 (by decide), lv_osw c2 (by decide), lv_osw c3 (by decide), lv_osw c4 (by decide), lv_osw c5 (by decide), lv_osw c6 (by decide)]; rfl) <|
 x_bipush dX6_meaning_72 bp_9 <|
 x_ireturn rfl dX6_meaning_74 ⟨_, rfl, ((((((h.2 c1).2 c2).2 c3).2 c4).2 c5).2 c6)⟩))))))))))))
def K_X6_next_0 (E : EV) (Q : Sg → Prop) (σ : Sg) : Prop := J E mi_X6_next (tgM E mi_X6_next (qV Q)) 0 [some (.ref 40), none, none] [] σ
def K_X6_next_66 (E : EV) (Q : Sg → Prop) (σ : Sg) (v1 : Int32) (v2 : Int32) : Prop := J E mi_X6_next (tgM E mi_X6_next (qV Q)) 66 [some (.ref 40), some (.int v1), some (.int v2)] [] σ
def K_X6_next_164 (E : EV) (Q : Sg → Prop) (σ : Sg) (v1 : Int32) : Prop := J E mi_X6_next (tgM E mi_X6_next (qV Q)) 164 [some (.ref 40), some (.int v1), none] [] σ
set_option maxRecDepth 100000 in
set_option maxHeartbeats 4000000 in
theorem B_X6_next_0 {E : EV} {Q : Sg → Prop} {σ : Sg} (h : MetI E mi_X6_here [.ref 40] σ (fun τ1 r2 => ((¬ r2 = (32 : Int32)) → MetI E mi_X6_here [.ref 40] (si (si τ1 4013 (gi τ1 4012)) 4015 (0 : Int32)) (fun τ5 r6 => ((0 ≤ r6) → MetI E mi_X6_in [.int r6, .int (97 : Int32), .int (122 : Int32)] τ5 (fun τ9 r10 => ((r10 = 0) → MetI E mi_X6_in [.int r6, .int (48 : Int32), .int (57 : Int32)] τ9 (fun τ13 r14 => ((r14 = 0) → ((¬ r6 = (59 : Int32)) → Q (si (si τ13 4012 ((gi τ13 4012) + (1 : Int32))) 4014 (9 : Int32))) ∧ ((r6 = (59 : Int32)) → Q (si (si τ13 4012 ((gi τ13 4012) + (1 : Int32))) 4014 (8 : Int32)))) ∧ ((¬ r14 = 0) → K_X6_next_164 E Q τ13 r6))) ∧ ((¬ r10 = 0) → K_X6_next_66 E Q τ9 r6 (0 : Int32)))) ∧ ((¬ 0 ≤ r6) → Q (si τ5 4014 (6 : Int32))))) ∧ ((r2 = (32 : Int32)) → K_X6_next_0 E Q (si τ1 4012 ((gi τ1 4012) + (1 : Int32)))))) : K_X6_next_0 E Q σ :=
 x_aload_n dX6_next_0 rfl <|
 x_callV (b := 40) (As := []) ok_X6_here ml_X6_76 (okM (by decide)) dX6_next_1 rfl rfl (Nat.le_of_ble_eq_true rfl) rfl rfl rfl h <|
 (kI (fun τ1 r2 h3 => x_bipush dX6_next_4 bp_32 <|
 x_icmp_ne (tgt := 22) dX6_next_6 (by decide) (fun c4 => x_aload_n dX6_next_22 rfl <|
 x_aload_n dX6_next_23 rfl <|
 x_getf (v := .int (gi τ1 4012)) fl_X6_73 rfl rfl rfl dX6_next_24 <|
 x_puti fp_X6_80 rfl rfl dX6_next_27 <|
 x_aload_n dX6_next_30 rfl <|
 x_iconst dX6_next_31 ic_0 <|
 x_puti fp_X6_83 rfl rfl dX6_next_32 <|
 x_aload_n dX6_next_35 rfl <|
 x_callV (b := 40) (As := []) ok_X6_here ml_X6_76 (okM (by decide)) dX6_next_36 rfl rfl (Nat.le_of_ble_eq_true rfl) rfl rfl rfl (h3.1 c4) <|
 (kI (fun τ5 r6 h7 => x_istore_n (L2 := [some (.ref 40), some (.int r6), none]) dX6_next_39 rfl (Nat.le_of_ble_eq_true rfl) <|
 x_iload_n dX6_next_40 rfl <|
 x_if_ge (tgt := 53) dX6_next_41 (by decide) (fun c8 => x_iload_n dX6_next_53 rfl <|
 x_bipush dX6_next_54 bp_97 <|
 x_bipush dX6_next_56 bp_122 <|
 x_callS (As := [.int r6, .int (97 : Int32), .int (122 : Int32)]) ok_X6_in ml_X6_63 (okM (by decide)) dX6_next_58 rfl rfl (Nat.le_of_ble_eq_true rfl) (h7.1 c8) <|
 (kI (fun τ9 r10 h11 => x_if_eq (tgt := 153) dX6_next_61 (by decide) (fun c12 => x_iload_n dX6_next_153 rfl <|
 x_bipush dX6_next_154 bp_48 <|
 x_bipush dX6_next_156 bp_57 <|
 x_callS (As := [.int r6, .int (48 : Int32), .int (57 : Int32)]) ok_X6_in ml_X6_63 (okM (by decide)) dX6_next_158 rfl rfl (Nat.le_of_ble_eq_true rfl) (h11.1 c12) <|
 (kI (fun τ13 r14 h15 => x_if_eq (tgt := 268) dX6_next_161 (by decide) (fun c16 => x_aload_n dX6_next_268 rfl <|
 x_dup dX6_next_269 rfl <|
 x_getf (v := .int (gi τ13 4012)) fl_X6_73 rfl rfl rfl dX6_next_270 <|
 x_iconst dX6_next_273 ic_1 <|
 x_iadd dX6_next_274 <|
 x_puti fp_X6_73 rfl rfl dX6_next_275 <|
 x_aload_n dX6_next_278 rfl <|
 x_iload_n dX6_next_279 rfl <|
 x_bipush dX6_next_280 bp_59 <|
 x_icmp_ne (tgt := 290) dX6_next_282 (by decide) (fun c17 => x_bipush dX6_next_290 bp_9 <|
 x_puti fp_X6_86 rfl rfl dX6_next_292 <|
 x_return rfl dX6_next_295 ⟨rfl, ((h15.1 c16).1 c17)⟩) (fun c17 => x_bipush dX6_next_285 bp_8 <|
 x_goto (tgt := 292) dX6_next_287 (by decide) <|
 x_puti fp_X6_86 rfl rfl dX6_next_292 <|
 x_return rfl dX6_next_295 ⟨rfl, ((h15.1 c16).2 c17)⟩)) (fun c16 => (h15.2 c16))))) (fun c12 => x_iconst dX6_next_64 ic_0 <|
 x_istore_n (L2 := [some (.ref 40), some (.int r6), some (.int (0 : Int32))]) dX6_next_65 rfl (Nat.le_of_ble_eq_true rfl) <|
 (h11.2 c12))))) (fun c8 => x_aload_n dX6_next_44 rfl <|
 x_bipush dX6_next_45 bp_6 <|
 x_puti fp_X6_86 rfl rfl dX6_next_47 <|
 x_goto (tgt := 295) dX6_next_50 (by decide) <|
 x_return rfl dX6_next_295 ⟨rfl, (h7.2 c8)⟩)))) (fun c4 => x_aload_n dX6_next_9 rfl <|
 x_dup dX6_next_10 rfl <|
 x_getf (v := .int (gi τ1 4012)) fl_X6_73 rfl rfl rfl dX6_next_11 <|
 x_iconst dX6_next_14 ic_1 <|
 x_iadd dX6_next_15 <|
 x_puti fp_X6_73 rfl rfl dX6_next_16 <|
 x_goto (tgt := 0) dX6_next_19 (by decide) <|
 (h3.2 c4))))
set_option maxRecDepth 100000 in
set_option maxHeartbeats 4000000 in
theorem B_X6_next_66 {E : EV} {Q : Sg → Prop} {σ : Sg} {v1 : Int32} {v2 : Int32} (h : MetI E mi_X6_here [.ref 40] σ (fun τ1 r2 => MetI E mi_X6_in [.int r2, .int (97 : Int32), .int (122 : Int32)] τ1 (fun τ4 r5 => ((r5 = 0) → ((((gi τ4 4012) - (gi τ4 4013)) ≤ (6 : Int32)) → MetI E mi_X6_meaning [.int v2] τ4 (fun τ9 r10 => Q (si τ9 4014 r10))) ∧ ((¬ ((gi τ4 4012) - (gi τ4 4013)) ≤ (6 : Int32)) → MetI E mi_X6_meaning [.int (0 : Int32)] τ4 (fun τ12 r13 => Q (si τ12 4014 r13)))) ∧ ((¬ r5 = 0) → (((6 : Int32) ≤ ((gi τ4 4012) - (gi τ4 4013))) → K_X6_next_66 E Q (si τ4 4012 ((gi τ4 4012) + (1 : Int32))) v1 (0 : Int32)) ∧ ((¬ (6 : Int32) ≤ ((gi τ4 4012) - (gi τ4 4013))) → MetI E mi_X6_here [.ref 40] τ4 (fun τ16 r17 => K_X6_next_66 E Q (si τ16 4012 ((gi τ16 4012) + (1 : Int32))) v1 ((((27 : Int32) * v2) + r17) - (96 : Int32)))))))) : K_X6_next_66 E Q σ v1 v2 :=
 x_aload_n dX6_next_66 rfl <|
 x_callV (b := 40) (As := []) ok_X6_here ml_X6_76 (okM (by decide)) dX6_next_67 rfl rfl (Nat.le_of_ble_eq_true rfl) rfl rfl rfl h <|
 (kI (fun τ1 r2 h3 => x_bipush dX6_next_70 bp_97 <|
 x_bipush dX6_next_72 bp_122 <|
 x_callS (As := [.int r2, .int (97 : Int32), .int (122 : Int32)]) ok_X6_in ml_X6_63 (okM (by decide)) dX6_next_74 rfl rfl (Nat.le_of_ble_eq_true rfl) h3 <|
 (kI (fun τ4 r5 h6 => x_if_eq (tgt := 124) dX6_next_77 (by decide) (fun c7 => x_aload_n dX6_next_124 rfl <|
 x_aload_n dX6_next_125 rfl <|
 x_getf (v := .int (gi τ4 4012)) fl_X6_73 rfl rfl rfl dX6_next_126 <|
 x_aload_n dX6_next_129 rfl <|
 x_getf (v := .int (gi τ4 4013)) fl_X6_80 rfl rfl rfl dX6_next_130 <|
 x_isub dX6_next_133 <|
 x_bipush dX6_next_134 bp_6 <|
 x_icmp_le (tgt := 143) dX6_next_136 (by decide) (fun c8 => x_iload_n dX6_next_143 rfl <|
 x_callS (As := [.int v2]) ok_X6_meaning ml_X6_89 (okM (by decide)) dX6_next_144 rfl rfl (Nat.le_of_ble_eq_true rfl) ((h6.1 c7).1 c8) <|
 (kI (fun τ9 r10 h11 => x_puti fp_X6_86 rfl rfl dX6_next_147 <|
 x_goto (tgt := 295) dX6_next_150 (by decide) <|
 x_return rfl dX6_next_295 ⟨rfl, h11⟩))) (fun c8 => x_iconst dX6_next_139 ic_0 <|
 x_goto (tgt := 144) dX6_next_140 (by decide) <|
 x_callS (As := [.int (0 : Int32)]) ok_X6_meaning ml_X6_89 (okM (by decide)) dX6_next_144 rfl rfl (Nat.le_of_ble_eq_true rfl) ((h6.1 c7).2 c8) <|
 (kI (fun τ12 r13 h14 => x_puti fp_X6_86 rfl rfl dX6_next_147 <|
 x_goto (tgt := 295) dX6_next_150 (by decide) <|
 x_return rfl dX6_next_295 ⟨rfl, h14⟩)))) (fun c7 => x_aload_n dX6_next_80 rfl <|
 x_getf (v := .int (gi τ4 4012)) fl_X6_73 rfl rfl rfl dX6_next_81 <|
 x_aload_n dX6_next_84 rfl <|
 x_getf (v := .int (gi τ4 4013)) fl_X6_80 rfl rfl rfl dX6_next_85 <|
 x_isub dX6_next_88 <|
 x_bipush dX6_next_89 bp_6 <|
 x_icmp_ge (tgt := 109) dX6_next_91 (by decide) (fun c15 => x_iconst dX6_next_109 ic_0 <|
 x_istore_n (L2 := [some (.ref 40), some (.int v1), some (.int (0 : Int32))]) dX6_next_110 rfl (Nat.le_of_ble_eq_true rfl) <|
 x_aload_n dX6_next_111 rfl <|
 x_dup dX6_next_112 rfl <|
 x_getf (v := .int (gi τ4 4012)) fl_X6_73 rfl rfl rfl dX6_next_113 <|
 x_iconst dX6_next_116 ic_1 <|
 x_iadd dX6_next_117 <|
 x_puti fp_X6_73 rfl rfl dX6_next_118 <|
 x_goto (tgt := 66) dX6_next_121 (by decide) <|
 ((h6.2 c7).1 c15)) (fun c15 => x_bipush dX6_next_94 bp_27 <|
 x_iload_n dX6_next_96 rfl <|
 x_imul dX6_next_97 <|
 x_aload_n dX6_next_98 rfl <|
 x_callV (b := 40) (As := []) ok_X6_here ml_X6_76 (okM (by decide)) dX6_next_99 rfl rfl (Nat.le_of_ble_eq_true rfl) rfl rfl rfl ((h6.2 c7).2 c15) <|
 (kI (fun τ16 r17 h18 => x_iadd dX6_next_102 <|
 x_bipush dX6_next_103 bp_96 <|
 x_isub dX6_next_105 <|
 x_goto (tgt := 110) dX6_next_106 (by decide) <|
 x_istore_n (L2 := [some (.ref 40), some (.int v1), some (.int ((((27 : Int32) * v2) + r17) - (96 : Int32)))]) dX6_next_110 rfl (Nat.le_of_ble_eq_true rfl) <|
 x_aload_n dX6_next_111 rfl <|
 x_dup dX6_next_112 rfl <|
 x_getf (v := .int (gi τ16 4012)) fl_X6_73 rfl rfl rfl dX6_next_113 <|
 x_iconst dX6_next_116 ic_1 <|
 x_iadd dX6_next_117 <|
 x_puti fp_X6_73 rfl rfl dX6_next_118 <|
 x_goto (tgt := 66) dX6_next_121 (by decide) <|
 h18))))))))
set_option maxRecDepth 100000 in
set_option maxHeartbeats 4000000 in
theorem B_X6_next_164 {E : EV} {Q : Sg → Prop} {σ : Sg} {v1 : Int32} (h : MetI E mi_X6_here [.ref 40] σ (fun τ1 r2 => MetI E mi_X6_in [.int r2, .int (48 : Int32), .int (57 : Int32)] τ1 (fun τ4 r5 => ((r5 = 0) → (((99 : Int32) < (gi τ4 4015)) → Q (si τ4 4014 (9 : Int32))) ∧ ((¬ (99 : Int32) < (gi τ4 4015)) → ((¬ v1 = (48 : Int32)) → Q (si τ4 4014 (7 : Int32))) ∧ ((v1 = (48 : Int32)) → ((((gi τ4 4012) - (gi τ4 4013)) ≤ (1 : Int32)) → Q (si τ4 4014 (7 : Int32))) ∧ ((¬ ((gi τ4 4012) - (gi τ4 4013)) ≤ (1 : Int32)) → Q (si τ4 4014 (9 : Int32)))))) ∧ ((¬ r5 = 0) → (((gi τ4 4015) ≤ (99 : Int32)) → MetI E mi_X6_here [.ref 40] τ4 (fun τ12 r13 => K_X6_next_164 E Q (si (si τ12 4015 ((((10 : Int32) * (gi τ4 4015)) + r13) - (48 : Int32))) 4012 ((gi τ12 4012) + (1 : Int32))) v1)) ∧ ((¬ (gi τ4 4015) ≤ (99 : Int32)) → K_X6_next_164 E Q (si (si τ4 4015 (gi τ4 4015)) 4012 ((gi τ4 4012) + (1 : Int32))) v1))))) : K_X6_next_164 E Q σ v1 :=
 x_aload_n dX6_next_164 rfl <|
 x_callV (b := 40) (As := []) ok_X6_here ml_X6_76 (okM (by decide)) dX6_next_165 rfl rfl (Nat.le_of_ble_eq_true rfl) rfl rfl rfl h <|
 (kI (fun τ1 r2 h3 => x_bipush dX6_next_168 bp_48 <|
 x_bipush dX6_next_170 bp_57 <|
 x_callS (As := [.int r2, .int (48 : Int32), .int (57 : Int32)]) ok_X6_in ml_X6_63 (okM (by decide)) dX6_next_172 rfl rfl (Nat.le_of_ble_eq_true rfl) h3 <|
 (kI (fun τ4 r5 h6 => x_if_eq (tgt := 226) dX6_next_175 (by decide) (fun c7 => x_aload_n dX6_next_226 rfl <|
 x_aload_n dX6_next_227 rfl <|
 x_getf (v := .int (gi τ4 4015)) fl_X6_83 rfl rfl rfl dX6_next_228 <|
 x_bipush dX6_next_231 bp_99 <|
 x_icmp_gt (tgt := 255) dX6_next_233 (by decide) (fun c8 => x_bipush dX6_next_255 bp_9 <|
 x_goto (tgt := 262) dX6_next_257 (by decide) <|
 x_puti fp_X6_86 rfl rfl dX6_next_262 <|
 x_goto (tgt := 295) dX6_next_265 (by decide) <|
 x_return rfl dX6_next_295 ⟨rfl, ((h6.1 c7).1 c8)⟩) (fun c8 => x_iload_n dX6_next_236 rfl <|
 x_bipush dX6_next_237 bp_48 <|
 x_icmp_ne (tgt := 260) dX6_next_239 (by decide) (fun c9 => x_bipush dX6_next_260 bp_7 <|
 x_puti fp_X6_86 rfl rfl dX6_next_262 <|
 x_goto (tgt := 295) dX6_next_265 (by decide) <|
 x_return rfl dX6_next_295 ⟨rfl, (((h6.1 c7).2 c8).1 c9)⟩) (fun c9 => x_aload_n dX6_next_242 rfl <|
 x_getf (v := .int (gi τ4 4012)) fl_X6_73 rfl rfl rfl dX6_next_243 <|
 x_aload_n dX6_next_246 rfl <|
 x_getf (v := .int (gi τ4 4013)) fl_X6_80 rfl rfl rfl dX6_next_247 <|
 x_isub dX6_next_250 <|
 x_iconst dX6_next_251 ic_1 <|
 x_icmp_le (tgt := 260) dX6_next_252 (by decide) (fun c10 => x_bipush dX6_next_260 bp_7 <|
 x_puti fp_X6_86 rfl rfl dX6_next_262 <|
 x_goto (tgt := 295) dX6_next_265 (by decide) <|
 x_return rfl dX6_next_295 ⟨rfl, ((((h6.1 c7).2 c8).2 c9).1 c10)⟩) (fun c10 => x_bipush dX6_next_255 bp_9 <|
 x_goto (tgt := 262) dX6_next_257 (by decide) <|
 x_puti fp_X6_86 rfl rfl dX6_next_262 <|
 x_goto (tgt := 295) dX6_next_265 (by decide) <|
 x_return rfl dX6_next_295 ⟨rfl, ((((h6.1 c7).2 c8).2 c9).2 c10)⟩)))) (fun c7 => x_aload_n dX6_next_178 rfl <|
 x_aload_n dX6_next_179 rfl <|
 x_getf (v := .int (gi τ4 4015)) fl_X6_83 rfl rfl rfl dX6_next_180 <|
 x_bipush dX6_next_183 bp_99 <|
 x_icmp_le (tgt := 195) dX6_next_185 (by decide) (fun c11 => x_bipush dX6_next_195 bp_10 <|
 x_aload_n dX6_next_197 rfl <|
 x_getf (v := .int (gi τ4 4015)) fl_X6_83 rfl rfl rfl dX6_next_198 <|
 x_imul dX6_next_201 <|
 x_aload_n dX6_next_202 rfl <|
 x_callV (b := 40) (As := []) ok_X6_here ml_X6_76 (okM (by decide)) dX6_next_203 rfl rfl (Nat.le_of_ble_eq_true rfl) rfl rfl rfl ((h6.2 c7).1 c11) <|
 (kI (fun τ12 r13 h14 => x_iadd dX6_next_206 <|
 x_bipush dX6_next_207 bp_48 <|
 x_isub dX6_next_209 <|
 x_puti fp_X6_83 rfl rfl dX6_next_210 <|
 x_aload_n dX6_next_213 rfl <|
 x_dup dX6_next_214 rfl <|
 x_getf (v := .int (gi τ12 4012)) fl_X6_73 rfl rfl rfl dX6_next_215 <|
 x_iconst dX6_next_218 ic_1 <|
 x_iadd dX6_next_219 <|
 x_puti fp_X6_73 rfl rfl dX6_next_220 <|
 x_goto (tgt := 164) dX6_next_223 (by decide) <|
 h14))) (fun c11 => x_aload_n dX6_next_188 rfl <|
 x_getf (v := .int (gi τ4 4015)) fl_X6_83 rfl rfl rfl dX6_next_189 <|
 x_goto (tgt := 210) dX6_next_192 (by decide) <|
 x_puti fp_X6_83 rfl rfl dX6_next_210 <|
 x_aload_n dX6_next_213 rfl <|
 x_dup dX6_next_214 rfl <|
 x_getf (v := .int (gi τ4 4012)) fl_X6_73 rfl rfl rfl dX6_next_215 <|
 x_iconst dX6_next_218 ic_1 <|
 x_iadd dX6_next_219 <|
 x_puti fp_X6_73 rfl rfl dX6_next_220 <|
 x_goto (tgt := 164) dX6_next_223 (by decide) <|
 ((h6.2 c7).2 c11)))))))
set_option maxRecDepth 100000 in
set_option maxHeartbeats 4000000 in
theorem M_X6_next {E : EV} {Q : Sg → Prop} {σ : Sg} (h : K_X6_next_0 E Q σ) : MetV E mi_X6_next [.ref 40] σ Q :=
 met_of (L := [some (.ref 40), none, none]) pn_X6 rfl (Nat.le_of_ble_eq_true rfl) <|
 h
set_option maxRecDepth 100000 in
set_option maxHeartbeats 4000000 in
theorem M_X6_due {E : EV} {Q : Sg → Int32 → Prop} {σ : Sg} {a1 : Int32} (h : ((¬ (gi σ 4016) = (-9 : Int32)) → Q σ (gi σ 4015)) ∧ (((gi σ 4016) = (-9 : Int32)) → ((a1 = 0) → Q (si σ 4016 (gi σ 4013)) (gi σ 4015)) ∧ ((¬ a1 = 0) → MetV E mi_X6_next [.ref 40] σ (fun τ3 => Q τ3 (gi σ 4015))))) : MetI E mi_X6_due [.ref 40, .int a1] σ Q :=
 met_of (L := [some (.ref 40), some (.int a1), none]) pn_X6 rfl (Nat.le_of_ble_eq_true rfl) <|
 x_aload_n dX6_due_0 rfl <|
 x_getf (v := .int (gi σ 4015)) fl_X6_83 rfl rfl rfl dX6_due_1 <|
 x_istore_n (L2 := [some (.ref 40), some (.int a1), some (.int (gi σ 4015))]) dX6_due_4 rfl (Nat.le_of_ble_eq_true rfl) <|
 x_aload_n dX6_due_5 rfl <|
 x_getf (v := .int (gi σ 4016)) fl_X6_93 rfl rfl rfl dX6_due_6 <|
 x_bipush dX6_due_9 bp_m9 <|
 x_icmp_ne (tgt := 33) dX6_due_11 (by decide) (fun c1 => x_iload_n dX6_due_33 rfl <|
 x_ireturn rfl dX6_due_34 ⟨_, rfl, (h.1 c1)⟩) (fun c1 => x_iload_n dX6_due_14 rfl <|
 x_if_eq (tgt := 25) dX6_due_15 (by decide) (fun c2 => x_aload_n dX6_due_25 rfl <|
 x_aload_n dX6_due_26 rfl <|
 x_getf (v := .int (gi σ 4013)) fl_X6_80 rfl rfl rfl dX6_due_27 <|
 x_puti fp_X6_93 rfl rfl dX6_due_30 <|
 x_iload_n dX6_due_33 rfl <|
 x_ireturn rfl dX6_due_34 ⟨_, rfl, ((h.2 c1).1 c2)⟩) (fun c2 => x_aload_n dX6_due_18 rfl <|
 x_callV (b := 40) (As := []) ok_X6_next ml_X6_96 (okM (by decide)) dX6_due_19 rfl rfl (Nat.le_of_ble_eq_true rfl) rfl rfl rfl ((h.2 c1).2 c2) <|
 (kV (fun τ3 h4 => x_goto (tgt := 33) dX6_due_22 (by decide) <|
 x_iload_n dX6_due_33 rfl <|
 x_ireturn rfl dX6_due_34 ⟨_, rfl, h4⟩))))
set_option maxRecDepth 100000 in
set_option maxHeartbeats 4000000 in
theorem M_X6_number {E : EV} {Q : Sg → Int32 → Prop} {σ : Sg} {a1 : Int32} {a2 : Int32} (h : ((¬ (gi σ 4014) = (7 : Int32)) → MetI E mi_X6_due [.ref 40, .int (0 : Int32)] σ (fun τ2 r3 => Q τ2 r3)) ∧ (((gi σ 4014) = (7 : Int32)) → MetI E mi_X6_in [.int (gi σ 4015), .int a1, .int a2] σ (fun τ5 r6 => ((r6 = 0) → MetI E mi_X6_due [.ref 40, .int (0 : Int32)] τ5 (fun τ9 r10 => Q τ9 r10)) ∧ ((¬ r6 = 0) → MetI E mi_X6_due [.ref 40, .int (1 : Int32)] τ5 (fun τ12 r13 => Q τ12 r13))))) : MetI E mi_X6_number [.ref 40, .int a1, .int a2] σ Q :=
 met_of (L := [some (.ref 40), some (.int a1), some (.int a2)]) pn_X6 rfl (Nat.le_of_ble_eq_true rfl) <|
 x_aload_n dX6_number_0 rfl <|
 x_aload_n dX6_number_1 rfl <|
 x_getf (v := .int (gi σ 4014)) fl_X6_86 rfl rfl rfl dX6_number_2 <|
 x_bipush dX6_number_5 bp_7 <|
 x_icmp_ne (tgt := 26) dX6_number_7 (by decide) (fun c1 => x_iconst dX6_number_26 ic_0 <|
 x_callV (b := 40) (As := [.int (0 : Int32)]) ok_X6_due ml_X6_99 (okM (by decide)) dX6_number_27 rfl rfl (Nat.le_of_ble_eq_true rfl) rfl rfl rfl (h.1 c1) <|
 (kI (fun τ2 r3 h4 => x_ireturn rfl dX6_number_30 ⟨_, rfl, h4⟩))) (fun c1 => x_aload_n dX6_number_10 rfl <|
 x_getf (v := .int (gi σ 4015)) fl_X6_83 rfl rfl rfl dX6_number_11 <|
 x_iload_n dX6_number_14 rfl <|
 x_iload_n dX6_number_15 rfl <|
 x_callS (As := [.int (gi σ 4015), .int a1, .int a2]) ok_X6_in ml_X6_63 (okM (by decide)) dX6_number_16 rfl rfl (Nat.le_of_ble_eq_true rfl) (h.2 c1) <|
 (kI (fun τ5 r6 h7 => x_if_eq (tgt := 26) dX6_number_19 (by decide) (fun c8 => x_iconst dX6_number_26 ic_0 <|
 x_callV (b := 40) (As := [.int (0 : Int32)]) ok_X6_due ml_X6_99 (okM (by decide)) dX6_number_27 rfl rfl (Nat.le_of_ble_eq_true rfl) rfl rfl rfl (h7.1 c8) <|
 (kI (fun τ9 r10 h11 => x_ireturn rfl dX6_number_30 ⟨_, rfl, h11⟩))) (fun c8 => x_iconst dX6_number_22 ic_1 <|
 x_goto (tgt := 27) dX6_number_23 (by decide) <|
 x_callV (b := 40) (As := [.int (1 : Int32)]) ok_X6_due ml_X6_99 (okM (by decide)) dX6_number_27 rfl rfl (Nat.le_of_ble_eq_true rfl) rfl rfl rfl (h7.2 c8) <|
 (kI (fun τ12 r13 h14 => x_ireturn rfl dX6_number_30 ⟨_, rfl, h14⟩))))))
def K_X6_maybesIn_4 (E : EV) (Q : Sg → Int32 → Prop) (σ : Sg) (v1 : Int32) (v2 : Int32) (v3 : Int32) : Prop := J E mi_X6_maybesIn (tgM E mi_X6_maybesIn (qI Q)) 4 [some (.ref 40), some (.int v1), some (.int v2), some (.int v3)] [] σ
set_option maxRecDepth 100000 in
set_option maxHeartbeats 4000000 in
theorem B_X6_maybesIn_4 {E : EV} {Q : Sg → Int32 → Prop} {σ : Sg} {v1 : Int32} {v2 : Int32} {v3 : Int32} (h : vp_in v1 4 ∧ ((((gm σ 44) v1.toNatClampNeg) ≤ v3) → Q σ v2) ∧ ((¬ ((gm σ 44) v1.toNatClampNeg) ≤ v3) → vp_in (((40 : Int32) * v1) + v3) 160 ∧ ((¬ ((gm σ 46) (((40 : Int32) * v1) + v3).toNatClampNeg) = (1 : Int32)) → K_X6_maybesIn_4 E Q σ v1 (v2 + (0 : Int32)) (v3 + 1)) ∧ ((((gm σ 46) (((40 : Int32) * v1) + v3).toNatClampNeg) = (1 : Int32)) → K_X6_maybesIn_4 E Q σ v1 (v2 + (1 : Int32)) (v3 + 1)))) : K_X6_maybesIn_4 E Q σ v1 v2 v3 :=
 x_iload_n dX6_maybesIn_4 rfl <|
 x_aload_n dX6_maybesIn_5 rfl <|
 x_getf (v := .ref 44) fl_X6_20 rfl rfl rfl dX6_maybesIn_6 <|
 x_iload_n dX6_maybesIn_9 rfl <|
 x_iaload (v := ((gm σ 44) v1.toNatClampNeg)) rfl h.1 rfl dX6_maybesIn_10 <|
 x_icmp_ge (tgt := 43) dX6_maybesIn_11 (by decide) (fun c1 => x_iload_n dX6_maybesIn_43 rfl <|
 x_ireturn rfl dX6_maybesIn_44 ⟨_, rfl, (h.2.1 c1)⟩) (fun c1 => x_iload_n dX6_maybesIn_14 rfl <|
 x_aload_n dX6_maybesIn_15 rfl <|
 x_getf (v := .ref 46) fl_X6_26 rfl rfl rfl dX6_maybesIn_16 <|
 x_bipush dX6_maybesIn_19 bp_40 <|
 x_iload_n dX6_maybesIn_21 rfl <|
 x_imul dX6_maybesIn_22 <|
 x_iload_n dX6_maybesIn_23 rfl <|
 x_iadd dX6_maybesIn_24 <|
 x_iaload (v := ((gm σ 46) (((40 : Int32) * v1) + v3).toNatClampNeg)) rfl (h.2.2 c1).1 rfl dX6_maybesIn_25 <|
 x_iconst dX6_maybesIn_26 ic_1 <|
 x_icmp_ne (tgt := 34) dX6_maybesIn_27 (by decide) (fun c2 => x_iconst dX6_maybesIn_34 ic_0 <|
 x_iadd dX6_maybesIn_35 <|
 x_istore_n (L2 := [some (.ref 40), some (.int v1), some (.int (v2 + (0 : Int32))), some (.int v3)]) dX6_maybesIn_36 rfl (Nat.le_of_ble_eq_true rfl) <|
 x_iinc (v := (v3 + 1)) (L2 := [some (.ref 40), some (.int v1), some (.int (v2 + (0 : Int32))), some (.int (v3 + 1))]) dX6_maybesIn_37 rfl (by rw [show Int32.ofInt (1) = 1 by decide]) rfl (Nat.le_of_ble_eq_true rfl) <|
 x_goto (tgt := 4) dX6_maybesIn_40 (by decide) <|
 ((h.2.2 c1).2.1 c2)) (fun c2 => x_iconst dX6_maybesIn_30 ic_1 <|
 x_goto (tgt := 35) dX6_maybesIn_31 (by decide) <|
 x_iadd dX6_maybesIn_35 <|
 x_istore_n (L2 := [some (.ref 40), some (.int v1), some (.int (v2 + (1 : Int32))), some (.int v3)]) dX6_maybesIn_36 rfl (Nat.le_of_ble_eq_true rfl) <|
 x_iinc (v := (v3 + 1)) (L2 := [some (.ref 40), some (.int v1), some (.int (v2 + (1 : Int32))), some (.int (v3 + 1))]) dX6_maybesIn_37 rfl (by rw [show Int32.ofInt (1) = 1 by decide]) rfl (Nat.le_of_ble_eq_true rfl) <|
 x_goto (tgt := 4) dX6_maybesIn_40 (by decide) <|
 ((h.2.2 c1).2.2 c2)))
set_option maxRecDepth 100000 in
set_option maxHeartbeats 4000000 in
theorem M_X6_maybesIn {E : EV} {Q : Sg → Int32 → Prop} {σ : Sg} {a1 : Int32} (h : K_X6_maybesIn_4 E Q σ a1 (0 : Int32) (0 : Int32)) : MetI E mi_X6_maybesIn [.ref 40, .int a1] σ Q :=
 met_of (L := [some (.ref 40), some (.int a1), none, none]) pn_X6 rfl (Nat.le_of_ble_eq_true rfl) <|
 x_iconst dX6_maybesIn_0 ic_0 <|
 x_istore_n (L2 := [some (.ref 40), some (.int a1), some (.int (0 : Int32)), none]) dX6_maybesIn_1 rfl (Nat.le_of_ble_eq_true rfl) <|
 x_iconst dX6_maybesIn_2 ic_0 <|
 x_istore_n (L2 := [some (.ref 40), some (.int a1), some (.int (0 : Int32)), some (.int (0 : Int32))]) dX6_maybesIn_3 rfl (Nat.le_of_ble_eq_true rfl) <|
 h
def K_X6_readItem_65 (E : EV) (Q : Sg → Prop) (σ : Sg) (v1 : Int32) (s0 : Int32) : Prop := J E mi_X6_readItem (tgM E mi_X6_readItem (qV Q)) 65 [some (.ref 40), some (.int v1), none, none] [.int s0] σ
def K_X6_readItem_164 (E : EV) (Q : Sg → Prop) (σ : Sg) (v1 : Int32) (v2 : Int32) (v3 : Int32) (s0 : Int32) (s2 : Int32) : Prop := J E mi_X6_readItem (tgM E mi_X6_readItem (qV Q)) 164 [some (.ref 40), some (.int v1), some (.int v2), some (.int v3)] [.int s0, .ref 40, .int s2, .ref 47] σ
def K_X6_readItem_246 (E : EV) (Q : Sg → Prop) (σ : Sg) (v1 : Int32) (v2 : Int32) (v3 : Int32) (s0 : Int32) (s2 : Int32) : Prop := J E mi_X6_readItem (tgM E mi_X6_readItem (qV Q)) 246 [some (.ref 40), some (.int v1), some (.int v2), some (.int v3)] [.int s0, .ref 40, .int s2, .ref 49] σ
def K_X6_readItem_265 (E : EV) (Q : Sg → Prop) (σ : Sg) (v1 : Int32) (v2 : Int32) (v3 : Int32) : Prop := J E mi_X6_readItem (tgM E mi_X6_readItem (qV Q)) 265 [some (.ref 40), some (.int v1), some (.int v2), some (.int v3)] [] σ
def K_X6_readItem_275 (E : EV) (Q : Sg → Prop) (σ : Sg) (v1 : Int32) (v2 : Int32) : Prop := J E mi_X6_readItem (tgM E mi_X6_readItem (qV Q)) 275 [some (.ref 40), some (.int v1), some (.int v2), none] [] σ
set_option maxRecDepth 100000 in
set_option maxHeartbeats 4000000 in
theorem B_X6_readItem_65 {E : EV} {Q : Sg → Prop} {σ : Sg} {v1 : Int32} {s0 : Int32} (h : MetI E mi_X6_due [.ref 40, .int s0] σ (fun τ1 r2 => (((gi τ1 4016) = (-9 : Int32)) → ((¬ v1 = (5 : Int32)) → vp_in ((40 : Int32) + ((gm τ1 44) 1)) 160 ∧ ((¬ ((gm τ1 44) 1) = 0) → vp_in (((40 : Int32) + ((gm τ1 44) 1)) - (1 : Int32)) 160 ∧ K_X6_readItem_164 E Q (sm τ1 46 ((40 : Int32) + ((gm τ1 44) 1)).toNatClampNeg v1) v1 s0 ((40 : Int32) + ((gm τ1 44) 1)) ((gm τ1 47) (((40 : Int32) + ((gm τ1 44) 1)) - (1 : Int32)).toNatClampNeg) ((40 : Int32) + ((gm τ1 44) 1))) ∧ ((((gm τ1 44) 1) = 0) → K_X6_readItem_164 E Q (sm τ1 46 ((40 : Int32) + ((gm τ1 44) 1)).toNatClampNeg v1) v1 s0 ((40 : Int32) + ((gm τ1 44) 1)) (0 : Int32) ((40 : Int32) + ((gm τ1 44) 1)))) ∧ ((v1 = (5 : Int32)) → MetI E mi_X6_number [.ref 40, .int (0 : Int32), .int (3 : Int32)] τ1 (fun τ7 r8 => vp_in ((8 : Int32) + ((gm τ1 42) 1)) 16 ∧ K_X6_readItem_275 E Q (sm (sm τ7 43 ((8 : Int32) + ((gm τ1 42) 1)).toNatClampNeg r8) 42 1 (((gm τ7 42) 1) + (1 : Int32))) v1 s0))) ∧ ((¬ (gi τ1 4016) = (-9 : Int32)) → Q τ1))) : K_X6_readItem_65 E Q σ v1 s0 :=
 x_istore_n (L2 := [some (.ref 40), some (.int v1), some (.int s0), none]) dX6_readItem_65 rfl (Nat.le_of_ble_eq_true rfl) <|
 x_aload_n dX6_readItem_66 rfl <|
 x_iload_n dX6_readItem_67 rfl <|
 x_callV (b := 40) (As := [.int s0]) ok_X6_due ml_X6_99 (okM (by decide)) dX6_readItem_68 rfl rfl (Nat.le_of_ble_eq_true rfl) rfl rfl rfl h <|
 (kI (fun τ1 r2 h3 => x_pop dX6_readItem_71 rfl <|
 x_aload_n dX6_readItem_72 rfl <|
 x_getf (v := .int (gi τ1 4016)) fl_X6_93 rfl rfl rfl dX6_readItem_73 <|
 x_bipush dX6_readItem_76 bp_m9 <|
 x_icmp_eq (tgt := 82) dX6_readItem_78 (by decide) (fun c4 => x_iload_n dX6_readItem_82 rfl <|
 x_iconst dX6_readItem_83 ic_5 <|
 x_icmp_ne (tgt := 120) dX6_readItem_84 (by decide) (fun c5 => x_bipush dX6_readItem_120 bp_40 <|
 x_aload_n dX6_readItem_122 rfl <|
 x_getf (v := .ref 44) fl_X6_20 rfl rfl rfl dX6_readItem_123 <|
 x_iconst dX6_readItem_126 ic_1 <|
 x_iaload (v := ((gm τ1 44) 1)) rfl (vpd (by decide)) rfl dX6_readItem_127 <|
 x_iadd dX6_readItem_128 <|
 x_istore_n (L2 := [some (.ref 40), some (.int v1), some (.int s0), some (.int ((40 : Int32) + ((gm τ1 44) 1)))]) dX6_readItem_129 rfl (Nat.le_of_ble_eq_true rfl) <|
 x_aload_n dX6_readItem_130 rfl <|
 x_getf (v := .ref 46) fl_X6_26 rfl rfl rfl dX6_readItem_131 <|
 x_iload_n dX6_readItem_134 rfl <|
 x_iload_n dX6_readItem_135 rfl <|
 x_iastore rfl ((h3.1 c4).1 c5).1 dX6_readItem_136 <|
 x_aload_n dX6_readItem_137 rfl <|
 x_getf (v := .ref 47) fl_X6_29 rfl rfl rfl dX6_readItem_138 <|
 x_iload_n dX6_readItem_141 rfl <|
 x_aload_n dX6_readItem_142 rfl <|
 x_aload_n dX6_readItem_143 rfl <|
 x_getf (v := .ref 44) fl_X6_20 rfl rfl rfl dX6_readItem_144 <|
 x_iconst dX6_readItem_147 ic_1 <|
 x_iaload (v := ((gm τ1 44) 1)) rfl (vpd (by decide)) rfl dX6_readItem_148 <|
 x_if_ne (tgt := 156) dX6_readItem_149 (by decide) (fun c6 => x_aload_n dX6_readItem_156 rfl <|
 x_getf (v := .ref 47) fl_X6_29 rfl rfl rfl dX6_readItem_157 <|
 x_iload_n dX6_readItem_160 rfl <|
 x_iconst dX6_readItem_161 ic_1 <|
 x_isub dX6_readItem_162 <|
 x_iaload (v := ((gm τ1 47) (((40 : Int32) + ((gm τ1 44) 1)) - (1 : Int32)).toNatClampNeg)) rfl (((h3.1 c4).1 c5).2.1 c6).1 rfl dX6_readItem_163 <|
 (((h3.1 c4).1 c5).2.1 c6).2) (fun c6 => x_iconst dX6_readItem_152 ic_0 <|
 x_goto (tgt := 164) dX6_readItem_153 (by decide) <|
 (((h3.1 c4).1 c5).2.2 c6))) (fun c5 => x_aload_n dX6_readItem_87 rfl <|
 x_getf (v := .ref 43) fl_X6_17 rfl rfl rfl dX6_readItem_88 <|
 x_bipush dX6_readItem_91 bp_8 <|
 x_aload_n dX6_readItem_93 rfl <|
 x_getf (v := .ref 42) fl_X6_13 rfl rfl rfl dX6_readItem_94 <|
 x_iconst dX6_readItem_97 ic_1 <|
 x_iaload (v := ((gm τ1 42) 1)) rfl (vpd (by decide)) rfl dX6_readItem_98 <|
 x_iadd dX6_readItem_99 <|
 x_aload_n dX6_readItem_100 rfl <|
 x_iconst dX6_readItem_101 ic_0 <|
 x_iconst dX6_readItem_102 ic_3 <|
 x_callV (b := 40) (As := [.int (0 : Int32), .int (3 : Int32)]) ok_X6_number ml_X6_106 (okM (by decide)) dX6_readItem_103 rfl rfl (Nat.le_of_ble_eq_true rfl) rfl rfl rfl ((h3.1 c4).2 c5) <|
 (kI (fun τ7 r8 h9 => x_iastore rfl h9.1 dX6_readItem_106 <|
 x_aload_n dX6_readItem_107 rfl <|
 x_getf (v := .ref 42) fl_X6_13 rfl rfl rfl dX6_readItem_108 <|
 x_iconst dX6_readItem_111 ic_1 <|
 x_dup2 dX6_readItem_112 rfl rfl <|
 x_iaload (v := ((gm τ7 42) 1)) rfl (vpd (by decide)) rfl dX6_readItem_113 <|
 x_iconst dX6_readItem_114 ic_1 <|
 x_iadd dX6_readItem_115 <|
 x_iastore rfl (vpd (by decide)) dX6_readItem_116 <|
 x_goto (tgt := 275) dX6_readItem_117 (by decide) <|
 h9.2)))) (fun c4 => x_return rfl dX6_readItem_81 ⟨rfl, (h3.2 c4)⟩)))
set_option maxRecDepth 100000 in
set_option maxHeartbeats 4000000 in
theorem B_X6_readItem_164 {E : EV} {Q : Sg → Prop} {σ : Sg} {v1 : Int32} {v2 : Int32} {v3 : Int32} {s0 : Int32} {s2 : Int32} (h : MetI E mi_X6_number [.ref 40, .int s0, .int (99 : Int32)] σ (fun τ1 r2 => vp_in s2 160 ∧ MetI E mi_X6_number [.ref 40, .int (0 : Int32), .int (((gm τ1 42) 1) - (1 : Int32))] (sm τ1 47 s2.toNatClampNeg r2) (fun τ4 r5 => vp_in v3 160 ∧ (((1 : Int32) < v1) → MetI E mi_X6_number [.ref 40, .int (0 : Int32), .int (3 : Int32)] (sm τ4 48 v3.toNatClampNeg r5) (fun τ8 r9 => K_X6_readItem_265 E Q (sm τ8 49 v3.toNatClampNeg r9) v1 v2 v3)) ∧ ((¬ (1 : Int32) < v1) → ((¬ (gi τ4 4014) = (7 : Int32)) → K_X6_readItem_246 E Q (sm τ4 48 v3.toNatClampNeg r5) v1 v2 v3 (0 : Int32) v3) ∧ (((gi τ4 4014) = (7 : Int32)) → MetI E mi_X6_in [.int (gi τ4 4015), .int (0 : Int32), .int (((gm τ4 42) 1) - (1 : Int32))] (sm τ4 48 v3.toNatClampNeg r5) (fun τ12 r13 => ((r13 = 0) → K_X6_readItem_246 E Q τ12 v1 v2 v3 (0 : Int32) v3) ∧ ((¬ r13 = 0) → (((gi τ12 4015) = ((gm τ12 48) v3.toNatClampNeg)) → K_X6_readItem_246 E Q τ12 v1 v2 v3 (0 : Int32) v3) ∧ ((¬ (gi τ12 4015) = ((gm τ12 48) v3.toNatClampNeg)) → K_X6_readItem_246 E Q τ12 v1 v2 v3 (1 : Int32) v3)))))))) : K_X6_readItem_164 E Q σ v1 v2 v3 s0 s2 :=
 x_bipush dX6_readItem_164 bp_99 <|
 x_callV (b := 40) (As := [.int s0, .int (99 : Int32)]) ok_X6_number ml_X6_106 (okM (by decide)) dX6_readItem_166 rfl rfl (Nat.le_of_ble_eq_true rfl) rfl rfl rfl h <|
 (kI (fun τ1 r2 h3 => x_iastore rfl h3.1 dX6_readItem_169 <|
 x_aload_n dX6_readItem_170 rfl <|
 x_getf (v := .ref 48) fl_X6_32 rfl rfl rfl dX6_readItem_171 <|
 x_iload_n dX6_readItem_174 rfl <|
 x_aload_n dX6_readItem_175 rfl <|
 x_iconst dX6_readItem_176 ic_0 <|
 x_aload_n dX6_readItem_177 rfl <|
 x_getf (v := .ref 42) fl_X6_13 rfl rfl rfl dX6_readItem_178 <|
 x_iconst dX6_readItem_181 ic_1 <|
 x_iaload (v := ((gm τ1 42) 1)) rfl (vpd (by decide)) rfl dX6_readItem_182 <|
 x_iconst dX6_readItem_183 ic_1 <|
 x_isub dX6_readItem_184 <|
 x_callV (b := 40) (As := [.int (0 : Int32), .int (((gm τ1 42) 1) - (1 : Int32))]) ok_X6_number ml_X6_106 (okM (by decide)) dX6_readItem_185 rfl rfl (Nat.le_of_ble_eq_true rfl) rfl rfl rfl h3.2 <|
 (kI (fun τ4 r5 h6 => x_iastore rfl h6.1 dX6_readItem_188 <|
 x_iload_n dX6_readItem_189 rfl <|
 x_iconst dX6_readItem_190 ic_1 <|
 x_icmp_gt (tgt := 253) dX6_readItem_191 (by decide) (fun c7 => x_aload_n dX6_readItem_253 rfl <|
 x_getf (v := .ref 49) fl_X6_35 rfl rfl rfl dX6_readItem_254 <|
 x_iload_n dX6_readItem_257 rfl <|
 x_aload_n dX6_readItem_258 rfl <|
 x_iconst dX6_readItem_259 ic_0 <|
 x_iconst dX6_readItem_260 ic_3 <|
 x_callV (b := 40) (As := [.int (0 : Int32), .int (3 : Int32)]) ok_X6_number ml_X6_106 (okM (by decide)) dX6_readItem_261 rfl rfl (Nat.le_of_ble_eq_true rfl) rfl rfl rfl (h6.2.1 c7) <|
 (kI (fun τ8 r9 h10 => x_iastore rfl h6.1 dX6_readItem_264 <|
 h10))) (fun c7 => x_aload_n dX6_readItem_194 rfl <|
 x_getf (v := .ref 49) fl_X6_35 rfl rfl rfl dX6_readItem_195 <|
 x_iload_n dX6_readItem_198 rfl <|
 x_aload_n dX6_readItem_199 rfl <|
 x_aload_n dX6_readItem_200 rfl <|
 x_getf (v := .int (gi τ4 4014)) fl_X6_86 rfl rfl rfl dX6_readItem_201 <|
 x_bipush dX6_readItem_204 bp_7 <|
 x_icmp_ne (tgt := 245) dX6_readItem_206 (by decide) (fun c11 => x_iconst dX6_readItem_245 ic_0 <|
 ((h6.2.2 c7).1 c11)) (fun c11 => x_aload_n dX6_readItem_209 rfl <|
 x_getf (v := .int (gi τ4 4015)) fl_X6_83 rfl rfl rfl dX6_readItem_210 <|
 x_iconst dX6_readItem_213 ic_0 <|
 x_aload_n dX6_readItem_214 rfl <|
 x_getf (v := .ref 42) fl_X6_13 rfl rfl rfl dX6_readItem_215 <|
 x_iconst dX6_readItem_218 ic_1 <|
 x_iaload (v := ((gm τ4 42) 1)) rfl (vpd (by decide)) rfl dX6_readItem_219 <|
 x_iconst dX6_readItem_220 ic_1 <|
 x_isub dX6_readItem_221 <|
 x_callS (As := [.int (gi τ4 4015), .int (0 : Int32), .int (((gm τ4 42) 1) - (1 : Int32))]) ok_X6_in ml_X6_63 (okM (by decide)) dX6_readItem_222 rfl rfl (Nat.le_of_ble_eq_true rfl) ((h6.2.2 c7).2 c11) <|
 (kI (fun τ12 r13 h14 => x_if_eq (tgt := 245) dX6_readItem_225 (by decide) (fun c15 => x_iconst dX6_readItem_245 ic_0 <|
 (h14.1 c15)) (fun c15 => x_aload_n dX6_readItem_228 rfl <|
 x_getf (v := .int (gi τ12 4015)) fl_X6_83 rfl rfl rfl dX6_readItem_229 <|
 x_aload_n dX6_readItem_232 rfl <|
 x_getf (v := .ref 48) fl_X6_32 rfl rfl rfl dX6_readItem_233 <|
 x_iload_n dX6_readItem_236 rfl <|
 x_iaload (v := ((gm τ12 48) v3.toNatClampNeg)) rfl h6.1 rfl dX6_readItem_237 <|
 x_icmp_eq (tgt := 245) dX6_readItem_238 (by decide) (fun c16 => x_iconst dX6_readItem_245 ic_0 <|
 ((h14.2 c15).1 c16)) (fun c16 => x_iconst dX6_readItem_241 ic_1 <|
 x_goto (tgt := 246) dX6_readItem_242 (by decide) <|
 ((h14.2 c15).2 c16)))))))))))
set_option maxRecDepth 100000 in
set_option maxHeartbeats 4000000 in
theorem B_X6_readItem_246 {E : EV} {Q : Sg → Prop} {σ : Sg} {v1 : Int32} {v2 : Int32} {v3 : Int32} {s0 : Int32} {s2 : Int32} (h : MetI E mi_X6_due [.ref 40, .int s0] σ (fun τ1 r2 => vp_in s2 160 ∧ K_X6_readItem_265 E Q (sm τ1 49 s2.toNatClampNeg r2) v1 v2 v3)) : K_X6_readItem_246 E Q σ v1 v2 v3 s0 s2 :=
 x_callV (b := 40) (As := [.int s0]) ok_X6_due ml_X6_99 (okM (by decide)) dX6_readItem_246 rfl rfl (Nat.le_of_ble_eq_true rfl) rfl rfl rfl h <|
 (kI (fun τ1 r2 h3 => x_iastore rfl h3.1 dX6_readItem_249 <|
 x_goto (tgt := 265) dX6_readItem_250 (by decide) <|
 h3.2))
set_option maxRecDepth 100000 in
set_option maxHeartbeats 4000000 in
theorem B_X6_readItem_265 {E : EV} {Q : Sg → Prop} {σ : Sg} {v1 : Int32} {v2 : Int32} {v3 : Int32} (h : K_X6_readItem_275 E Q (sm σ 44 1 (((gm σ 44) 1) + (1 : Int32))) v1 v2) : K_X6_readItem_265 E Q σ v1 v2 v3 :=
 x_aload_n dX6_readItem_265 rfl <|
 x_getf (v := .ref 44) fl_X6_20 rfl rfl rfl dX6_readItem_266 <|
 x_iconst dX6_readItem_269 ic_1 <|
 x_dup2 dX6_readItem_270 rfl rfl <|
 x_iaload (v := ((gm σ 44) 1)) rfl (vpd (by decide)) rfl dX6_readItem_271 <|
 x_iconst dX6_readItem_272 ic_1 <|
 x_iadd dX6_readItem_273 <|
 x_iastore rfl (vpd (by decide)) dX6_readItem_274 <|
 x_sub (L2 := [some (.ref 40), some (.int v1), some (.int v2), none]) ⟨rfl, rfl, rfl, trivial⟩ h
set_option maxRecDepth 100000 in
set_option maxHeartbeats 4000000 in
theorem B_X6_readItem_275 {E : EV} {Q : Sg → Prop} {σ : Sg} {v1 : Int32} {v2 : Int32} (h : ((¬ (gi σ 4014) = (8 : Int32)) → MetI E mi_X6_due [.ref 40, .int (0 : Int32)] σ (fun τ2 r3 => Q τ2)) ∧ (((gi σ 4014) = (8 : Int32)) → MetI E mi_X6_due [.ref 40, .int (1 : Int32)] σ (fun τ5 r6 => Q τ5))) : K_X6_readItem_275 E Q σ v1 v2 :=
 x_aload_n dX6_readItem_275 rfl <|
 x_aload_n dX6_readItem_276 rfl <|
 x_getf (v := .int (gi σ 4014)) fl_X6_86 rfl rfl rfl dX6_readItem_277 <|
 x_bipush dX6_readItem_280 bp_8 <|
 x_icmp_ne (tgt := 289) dX6_readItem_282 (by decide) (fun c1 => x_iconst dX6_readItem_289 ic_0 <|
 x_callV (b := 40) (As := [.int (0 : Int32)]) ok_X6_due ml_X6_99 (okM (by decide)) dX6_readItem_290 rfl rfl (Nat.le_of_ble_eq_true rfl) rfl rfl rfl (h.1 c1) <|
 (kI (fun τ2 r3 h4 => x_pop dX6_readItem_293 rfl <|
 x_return rfl dX6_readItem_294 ⟨rfl, h4⟩))) (fun c1 => x_iconst dX6_readItem_285 ic_1 <|
 x_goto (tgt := 290) dX6_readItem_286 (by decide) <|
 x_callV (b := 40) (As := [.int (1 : Int32)]) ok_X6_due ml_X6_99 (okM (by decide)) dX6_readItem_290 rfl rfl (Nat.le_of_ble_eq_true rfl) rfl rfl rfl (h.2 c1) <|
 (kI (fun τ5 r6 h7 => x_pop dX6_readItem_293 rfl <|
 x_return rfl dX6_readItem_294 ⟨rfl, h7⟩)))
set_option maxRecDepth 100000 in
set_option maxHeartbeats 4000000 in
theorem M_X6_readItem {E : EV} {Q : Sg → Prop} {σ : Sg} (h : ((¬ (gi σ 4014) = (5 : Int32)) → (((4 : Int32) < (gi σ 4014)) → K_X6_readItem_65 E Q σ (gi σ 4014) (0 : Int32)) ∧ ((¬ (4 : Int32) < (gi σ 4014)) → (((40 : Int32) ≤ ((gm σ 44) 1)) → K_X6_readItem_65 E Q σ (gi σ 4014) (0 : Int32)) ∧ ((¬ (40 : Int32) ≤ ((gm σ 44) 1)) → ((¬ (gi σ 4014) = (1 : Int32)) → K_X6_readItem_65 E Q σ (gi σ 4014) (1 : Int32)) ∧ (((gi σ 4014) = (1 : Int32)) → MetI E mi_X6_maybesIn [.ref 40, .int (1 : Int32)] σ (fun τ5 r6 => (((6 : Int32) ≤ r6) → K_X6_readItem_65 E Q τ5 (gi σ 4014) (0 : Int32)) ∧ ((¬ (6 : Int32) ≤ r6) → K_X6_readItem_65 E Q τ5 (gi σ 4014) (1 : Int32))))))) ∧ (((gi σ 4014) = (5 : Int32)) → (((8 : Int32) ≤ ((gm σ 42) 1)) → K_X6_readItem_65 E Q σ (gi σ 4014) (0 : Int32)) ∧ ((¬ (8 : Int32) ≤ ((gm σ 42) 1)) → K_X6_readItem_65 E Q σ (gi σ 4014) (1 : Int32)))) : MetV E mi_X6_readItem [.ref 40] σ Q :=
 met_of (L := [some (.ref 40), none, none, none]) pn_X6 rfl (Nat.le_of_ble_eq_true rfl) <|
 x_aload_n dX6_readItem_0 rfl <|
 x_getf (v := .int (gi σ 4014)) fl_X6_86 rfl rfl rfl dX6_readItem_1 <|
 x_istore_n (L2 := [some (.ref 40), some (.int (gi σ 4014)), none, none]) dX6_readItem_4 rfl (Nat.le_of_ble_eq_true rfl) <|
 x_iload_n dX6_readItem_5 rfl <|
 x_iconst dX6_readItem_6 ic_5 <|
 x_icmp_ne (tgt := 29) dX6_readItem_7 (by decide) (fun c1 => x_iload_n dX6_readItem_29 rfl <|
 x_iconst dX6_readItem_30 ic_4 <|
 x_icmp_gt (tgt := 64) dX6_readItem_31 (by decide) (fun c2 => x_iconst dX6_readItem_64 ic_0 <|
 ((h.1 c1).1 c2)) (fun c2 => x_aload_n dX6_readItem_34 rfl <|
 x_getf (v := .ref 44) fl_X6_20 rfl rfl rfl dX6_readItem_35 <|
 x_iconst dX6_readItem_38 ic_1 <|
 x_iaload (v := ((gm σ 44) 1)) rfl (vpd (by decide)) rfl dX6_readItem_39 <|
 x_bipush dX6_readItem_40 bp_40 <|
 x_icmp_ge (tgt := 64) dX6_readItem_42 (by decide) (fun c3 => x_iconst dX6_readItem_64 ic_0 <|
 (((h.1 c1).2 c2).1 c3)) (fun c3 => x_iload_n dX6_readItem_45 rfl <|
 x_iconst dX6_readItem_46 ic_1 <|
 x_icmp_ne (tgt := 60) dX6_readItem_47 (by decide) (fun c4 => x_iconst dX6_readItem_60 ic_1 <|
 x_goto (tgt := 65) dX6_readItem_61 (by decide) <|
 ((((h.1 c1).2 c2).2 c3).1 c4)) (fun c4 => x_aload_n dX6_readItem_50 rfl <|
 x_iconst dX6_readItem_51 ic_1 <|
 x_callV (b := 40) (As := [.int (1 : Int32)]) ok_X6_maybesIn ml_X6_103 (okM (by decide)) dX6_readItem_52 rfl rfl (Nat.le_of_ble_eq_true rfl) rfl rfl rfl ((((h.1 c1).2 c2).2 c3).2 c4) <|
 (kI (fun τ5 r6 h7 => x_bipush dX6_readItem_55 bp_6 <|
 x_icmp_ge (tgt := 64) dX6_readItem_57 (by decide) (fun c8 => x_iconst dX6_readItem_64 ic_0 <|
 (h7.1 c8)) (fun c8 => x_iconst dX6_readItem_60 ic_1 <|
 x_goto (tgt := 65) dX6_readItem_61 (by decide) <|
 (h7.2 c8)))))))) (fun c1 => x_aload_n dX6_readItem_10 rfl <|
 x_getf (v := .ref 42) fl_X6_13 rfl rfl rfl dX6_readItem_11 <|
 x_iconst dX6_readItem_14 ic_1 <|
 x_iaload (v := ((gm σ 42) 1)) rfl (vpd (by decide)) rfl dX6_readItem_15 <|
 x_bipush dX6_readItem_16 bp_8 <|
 x_icmp_ge (tgt := 25) dX6_readItem_18 (by decide) (fun c9 => x_iconst dX6_readItem_25 ic_0 <|
 x_goto (tgt := 65) dX6_readItem_26 (by decide) <|
 ((h.2 c1).1 c9)) (fun c9 => x_iconst dX6_readItem_21 ic_1 <|
 x_goto (tgt := 65) dX6_readItem_22 (by decide) <|
 ((h.2 c1).2 c9)))
def K_X6_copy_26 (E : EV) (Q : Sg → Prop) (σ : Sg) (v1 : Int32) (v2 : Int32) (v3 : Int32) : Prop := J E mi_X6_copy (tgM E mi_X6_copy (qV Q)) 26 [some (.ref 40), some (.int v1), some (.int v2), some (.int v3)] [] σ
set_option maxRecDepth 100000 in
set_option maxHeartbeats 4000000 in
theorem B_X6_copy_26 {E : EV} {Q : Sg → Prop} {σ : Sg} {v1 : Int32} {v2 : Int32} {v3 : Int32} (h : (((40 : Int32) ≤ v3) → Q σ) ∧ ((¬ (40 : Int32) ≤ v3) → vp_in (((40 : Int32) * v1) + v3) 160 ∧ vp_in (((40 : Int32) * v2) + v3) 160 ∧ K_X6_copy_26 E Q (sm (sm (sm (sm σ 46 (((40 : Int32) * v2) + v3).toNatClampNeg ((gm σ 46) (((40 : Int32) * v1) + v3).toNatClampNeg)) 47 (((40 : Int32) * v2) + v3).toNatClampNeg ((gm σ 47) (((40 : Int32) * v1) + v3).toNatClampNeg)) 48 (((40 : Int32) * v2) + v3).toNatClampNeg ((gm σ 48) (((40 : Int32) * v1) + v3).toNatClampNeg)) 49 (((40 : Int32) * v2) + v3).toNatClampNeg ((gm σ 49) (((40 : Int32) * v1) + v3).toNatClampNeg)) v1 v2 (v3 + 1))) : K_X6_copy_26 E Q σ v1 v2 v3 :=
 x_iload_n dX6_copy_26 rfl <|
 x_bipush dX6_copy_27 bp_40 <|
 x_icmp_ge (tgt := 126) dX6_copy_29 (by decide) (fun c1 => x_return rfl dX6_copy_126 ⟨rfl, (h.1 c1)⟩) (fun c1 => x_aload_n dX6_copy_32 rfl <|
 x_getf (v := .ref 46) fl_X6_26 rfl rfl rfl dX6_copy_33 <|
 x_bipush dX6_copy_36 bp_40 <|
 x_iload_n dX6_copy_38 rfl <|
 x_imul dX6_copy_39 <|
 x_iload_n dX6_copy_40 rfl <|
 x_iadd dX6_copy_41 <|
 x_aload_n dX6_copy_42 rfl <|
 x_getf (v := .ref 46) fl_X6_26 rfl rfl rfl dX6_copy_43 <|
 x_bipush dX6_copy_46 bp_40 <|
 x_iload_n dX6_copy_48 rfl <|
 x_imul dX6_copy_49 <|
 x_iload_n dX6_copy_50 rfl <|
 x_iadd dX6_copy_51 <|
 x_iaload (v := ((gm σ 46) (((40 : Int32) * v1) + v3).toNatClampNeg)) rfl (h.2 c1).1 rfl dX6_copy_52 <|
 x_iastore rfl (h.2 c1).2.1 dX6_copy_53 <|
 x_aload_n dX6_copy_54 rfl <|
 x_getf (v := .ref 47) fl_X6_29 rfl rfl rfl dX6_copy_55 <|
 x_bipush dX6_copy_58 bp_40 <|
 x_iload_n dX6_copy_60 rfl <|
 x_imul dX6_copy_61 <|
 x_iload_n dX6_copy_62 rfl <|
 x_iadd dX6_copy_63 <|
 x_aload_n dX6_copy_64 rfl <|
 x_getf (v := .ref 47) fl_X6_29 rfl rfl rfl dX6_copy_65 <|
 x_bipush dX6_copy_68 bp_40 <|
 x_iload_n dX6_copy_70 rfl <|
 x_imul dX6_copy_71 <|
 x_iload_n dX6_copy_72 rfl <|
 x_iadd dX6_copy_73 <|
 x_iaload (v := ((gm σ 47) (((40 : Int32) * v1) + v3).toNatClampNeg)) rfl (h.2 c1).1 rfl dX6_copy_74 <|
 x_iastore rfl (h.2 c1).2.1 dX6_copy_75 <|
 x_aload_n dX6_copy_76 rfl <|
 x_getf (v := .ref 48) fl_X6_32 rfl rfl rfl dX6_copy_77 <|
 x_bipush dX6_copy_80 bp_40 <|
 x_iload_n dX6_copy_82 rfl <|
 x_imul dX6_copy_83 <|
 x_iload_n dX6_copy_84 rfl <|
 x_iadd dX6_copy_85 <|
 x_aload_n dX6_copy_86 rfl <|
 x_getf (v := .ref 48) fl_X6_32 rfl rfl rfl dX6_copy_87 <|
 x_bipush dX6_copy_90 bp_40 <|
 x_iload_n dX6_copy_92 rfl <|
 x_imul dX6_copy_93 <|
 x_iload_n dX6_copy_94 rfl <|
 x_iadd dX6_copy_95 <|
 x_iaload (v := ((gm σ 48) (((40 : Int32) * v1) + v3).toNatClampNeg)) rfl (h.2 c1).1 rfl dX6_copy_96 <|
 x_iastore rfl (h.2 c1).2.1 dX6_copy_97 <|
 x_aload_n dX6_copy_98 rfl <|
 x_getf (v := .ref 49) fl_X6_35 rfl rfl rfl dX6_copy_99 <|
 x_bipush dX6_copy_102 bp_40 <|
 x_iload_n dX6_copy_104 rfl <|
 x_imul dX6_copy_105 <|
 x_iload_n dX6_copy_106 rfl <|
 x_iadd dX6_copy_107 <|
 x_aload_n dX6_copy_108 rfl <|
 x_getf (v := .ref 49) fl_X6_35 rfl rfl rfl dX6_copy_109 <|
 x_bipush dX6_copy_112 bp_40 <|
 x_iload_n dX6_copy_114 rfl <|
 x_imul dX6_copy_115 <|
 x_iload_n dX6_copy_116 rfl <|
 x_iadd dX6_copy_117 <|
 x_iaload (v := ((gm σ 49) (((40 : Int32) * v1) + v3).toNatClampNeg)) rfl (h.2 c1).1 rfl dX6_copy_118 <|
 x_iastore rfl (h.2 c1).2.1 dX6_copy_119 <|
 x_iinc (v := (v3 + 1)) (L2 := [some (.ref 40), some (.int v1), some (.int v2), some (.int (v3 + 1))]) dX6_copy_120 rfl (by rw [show Int32.ofInt (1) = 1 by decide]) rfl (Nat.le_of_ble_eq_true rfl) <|
 x_goto (tgt := 26) dX6_copy_123 (by decide) <|
 (h.2 c1).2.2)
set_option maxRecDepth 100000 in
set_option maxHeartbeats 4000000 in
theorem M_X6_copy {E : EV} {Q : Sg → Prop} {σ : Sg} {a1 : Int32} {a2 : Int32} (h : vp_in a1 4 ∧ vp_in a2 4 ∧ K_X6_copy_26 E Q (sm (sm σ 44 a2.toNatClampNeg ((gm σ 44) a1.toNatClampNeg)) 45 a2.toNatClampNeg ((gm σ 45) a1.toNatClampNeg)) a1 a2 (0 : Int32)) : MetV E mi_X6_copy [.ref 40, .int a1, .int a2] σ Q :=
 met_of (L := [some (.ref 40), some (.int a1), some (.int a2), none]) pn_X6 rfl (Nat.le_of_ble_eq_true rfl) <|
 x_aload_n dX6_copy_0 rfl <|
 x_getf (v := .ref 44) fl_X6_20 rfl rfl rfl dX6_copy_1 <|
 x_iload_n dX6_copy_4 rfl <|
 x_aload_n dX6_copy_5 rfl <|
 x_getf (v := .ref 44) fl_X6_20 rfl rfl rfl dX6_copy_6 <|
 x_iload_n dX6_copy_9 rfl <|
 x_iaload (v := ((gm σ 44) a1.toNatClampNeg)) rfl h.1 rfl dX6_copy_10 <|
 x_iastore rfl h.2.1 dX6_copy_11 <|
 x_aload_n dX6_copy_12 rfl <|
 x_getf (v := .ref 45) fl_X6_23 rfl rfl rfl dX6_copy_13 <|
 x_iload_n dX6_copy_16 rfl <|
 x_aload_n dX6_copy_17 rfl <|
 x_getf (v := .ref 45) fl_X6_23 rfl rfl rfl dX6_copy_18 <|
 x_iload_n dX6_copy_21 rfl <|
 x_iaload (v := ((gm σ 45) a1.toNatClampNeg)) rfl h.1 rfl dX6_copy_22 <|
 x_iastore rfl h.2.1 dX6_copy_23 <|
 x_iconst dX6_copy_24 ic_0 <|
 x_istore_n (L2 := [some (.ref 40), some (.int a1), some (.int a2), some (.int (0 : Int32))]) dX6_copy_25 rfl (Nat.le_of_ble_eq_true rfl) <|
 h.2.2
def K_X6_tell_31 (E : EV) (Q : Sg → Int32 → Prop) (σ : Sg) (v1 : Int32) : Prop := J E mi_X6_tell (tgM E mi_X6_tell (qI Q)) 31 [some (.ref 40), some (.int v1), none] [] σ
def K_X6_tell_90 (E : EV) (Q : Sg → Int32 → Prop) (σ : Sg) (v1 : Int32) (v2 : Int32) : Prop := J E mi_X6_tell (tgM E mi_X6_tell (qI Q)) 90 [some (.ref 40), some (.int v1), some (.int v2)] [] σ
set_option maxRecDepth 100000 in
set_option maxHeartbeats 4000000 in
theorem B_X6_tell_31 {E : EV} {Q : Sg → Int32 → Prop} {σ : Sg} {v1 : Int32} (h : ((¬ (gi σ 4016) = (-9 : Int32)) → Q σ ((-10 : Int32) - (gi σ 4016))) ∧ (((gi σ 4016) = (-9 : Int32)) → (((gi σ 4014) = (6 : Int32)) → K_X6_tell_90 E Q (sm σ 42 0 ((gm σ 42) 1)) v1 (0 : Int32)) ∧ ((¬ (gi σ 4014) = (6 : Int32)) → MetV E mi_X6_readItem [.ref 40] σ (fun τ3 => K_X6_tell_31 E Q τ3 (v1 + 1))))) : K_X6_tell_31 E Q σ v1 :=
 x_aload_n dX6_tell_31 rfl <|
 x_getf (v := .int (gi σ 4016)) fl_X6_93 rfl rfl rfl dX6_tell_32 <|
 x_bipush dX6_tell_35 bp_m9 <|
 x_icmp_ne (tgt := 59) dX6_tell_37 (by decide) (fun c1 => x_aload_n dX6_tell_59 rfl <|
 x_getf (v := .int (gi σ 4016)) fl_X6_93 rfl rfl rfl dX6_tell_60 <|
 x_bipush dX6_tell_63 bp_m9 <|
 x_icmp_eq (tgt := 76) dX6_tell_65 (by decide) (fun c => absurd c c1) (fun _ => x_bipush dX6_tell_68 bp_m10 <|
 x_aload_n dX6_tell_70 rfl <|
 x_getf (v := .int (gi σ 4016)) fl_X6_93 rfl rfl rfl dX6_tell_71 <|
 x_isub dX6_tell_74 <|
 x_ireturn rfl dX6_tell_75 ⟨_, rfl, (h.1 c1)⟩)) (fun c1 => x_aload_n dX6_tell_40 rfl <|
 x_getf (v := .int (gi σ 4014)) fl_X6_86 rfl rfl rfl dX6_tell_41 <|
 x_bipush dX6_tell_44 bp_6 <|
 x_icmp_eq (tgt := 59) dX6_tell_46 (by decide) (fun c2 => x_aload_n dX6_tell_59 rfl <|
 x_getf (v := .int (gi σ 4016)) fl_X6_93 rfl rfl rfl dX6_tell_60 <|
 x_bipush dX6_tell_63 bp_m9 <|
 x_icmp_eq (tgt := 76) dX6_tell_65 (by decide) (fun _ => x_aload_n dX6_tell_76 rfl <|
 x_getf (v := .ref 42) fl_X6_13 rfl rfl rfl dX6_tell_77 <|
 x_iconst dX6_tell_80 ic_0 <|
 x_aload_n dX6_tell_81 rfl <|
 x_getf (v := .ref 42) fl_X6_13 rfl rfl rfl dX6_tell_82 <|
 x_iconst dX6_tell_85 ic_1 <|
 x_iaload (v := ((gm σ 42) 1)) rfl (vpd (by decide)) rfl dX6_tell_86 <|
 x_iastore rfl (vpd (by decide)) dX6_tell_87 <|
 x_iconst dX6_tell_88 ic_0 <|
 x_istore_n (L2 := [some (.ref 40), some (.int v1), some (.int (0 : Int32))]) dX6_tell_89 rfl (Nat.le_of_ble_eq_true rfl) <|
 ((h.2 c1).1 c2)) (fun c => absurd c1 c)) (fun c2 => x_aload_n dX6_tell_49 rfl <|
 x_callV (b := 40) (As := []) ok_X6_readItem ml_X6_110 (okM (by decide)) dX6_tell_50 rfl rfl (Nat.le_of_ble_eq_true rfl) rfl rfl rfl ((h.2 c1).2 c2) <|
 (kV (fun τ3 h4 => x_iinc (v := (v1 + 1)) (L2 := [some (.ref 40), some (.int (v1 + 1)), none]) dX6_tell_53 rfl (by rw [show Int32.ofInt (1) = 1 by decide]) rfl (Nat.le_of_ble_eq_true rfl) <|
 x_goto (tgt := 31) dX6_tell_56 (by decide) <|
 h4))))
set_option maxRecDepth 100000 in
set_option maxHeartbeats 4000000 in
theorem B_X6_tell_90 {E : EV} {Q : Sg → Int32 → Prop} {σ : Sg} {v1 : Int32} {v2 : Int32} (h : (((8 : Int32) ≤ v2) → ((¬ ((gm σ 44) 1) = 0) → vp_in (((40 : Int32) + ((gm σ 44) 1)) - (1 : Int32)) 160 ∧ MetV E mi_X6_copy [.ref 40, .int (1 : Int32), .int (0 : Int32)] (sm σ 45 1 ((gm σ 47) (((40 : Int32) + ((gm σ 44) 1)) - (1 : Int32)).toNatClampNeg)) (fun τ3 => Q (si (sm (sm τ3 50 0 (vp_nar .boolean (0 : Int32))) 50 1 (vp_nar .boolean (0 : Int32))) 4002 (0 : Int32)) v1)) ∧ ((((gm σ 44) 1) = 0) → MetV E mi_X6_copy [.ref 40, .int (1 : Int32), .int (0 : Int32)] (sm σ 45 1 (0 : Int32)) (fun τ5 => Q (si (sm (sm τ5 50 0 (vp_nar .boolean (0 : Int32))) 50 1 (vp_nar .boolean (0 : Int32))) 4002 (0 : Int32)) v1))) ∧ ((¬ (8 : Int32) ≤ v2) → vp_in ((8 : Int32) + v2) 16 ∧ vp_in v2 16 ∧ K_X6_tell_90 E Q (sm σ 43 v2.toNatClampNeg ((gm σ 43) ((8 : Int32) + v2).toNatClampNeg)) v1 (v2 + 1))) : K_X6_tell_90 E Q σ v1 v2 :=
 x_iload_n dX6_tell_90 rfl <|
 x_bipush dX6_tell_91 bp_8 <|
 x_icmp_ge (tgt := 117) dX6_tell_93 (by decide) (fun c1 => x_aload_n dX6_tell_117 rfl <|
 x_getf (v := .ref 45) fl_X6_23 rfl rfl rfl dX6_tell_118 <|
 x_iconst dX6_tell_121 ic_1 <|
 x_aload_n dX6_tell_122 rfl <|
 x_getf (v := .ref 44) fl_X6_20 rfl rfl rfl dX6_tell_123 <|
 x_iconst dX6_tell_126 ic_1 <|
 x_iaload (v := ((gm σ 44) 1)) rfl (vpd (by decide)) rfl dX6_tell_127 <|
 x_if_ne (tgt := 135) dX6_tell_128 (by decide) (fun c2 => x_aload_n dX6_tell_135 rfl <|
 x_getf (v := .ref 47) fl_X6_29 rfl rfl rfl dX6_tell_136 <|
 x_bipush dX6_tell_139 bp_40 <|
 x_aload_n dX6_tell_141 rfl <|
 x_getf (v := .ref 44) fl_X6_20 rfl rfl rfl dX6_tell_142 <|
 x_iconst dX6_tell_145 ic_1 <|
 x_iaload (v := ((gm σ 44) 1)) rfl (vpd (by decide)) rfl dX6_tell_146 <|
 x_iadd dX6_tell_147 <|
 x_iconst dX6_tell_148 ic_1 <|
 x_isub dX6_tell_149 <|
 x_iaload (v := ((gm σ 47) (((40 : Int32) + ((gm σ 44) 1)) - (1 : Int32)).toNatClampNeg)) rfl ((h.1 c1).1 c2).1 rfl dX6_tell_150 <|
 x_iastore rfl (vpd (by decide)) dX6_tell_151 <|
 x_aload_n dX6_tell_152 rfl <|
 x_iconst dX6_tell_153 ic_1 <|
 x_iconst dX6_tell_154 ic_0 <|
 x_callV (b := 40) (As := [.int (1 : Int32), .int (0 : Int32)]) ok_X6_copy ml_X6_113 (okM (by decide)) dX6_tell_155 rfl rfl (Nat.le_of_ble_eq_true rfl) rfl rfl rfl ((h.1 c1).1 c2).2 <|
 (kV (fun τ3 h4 => x_aload_n dX6_tell_158 rfl <|
 x_getf (v := .ref 50) fl_X6_38 rfl rfl rfl dX6_tell_159 <|
 x_iconst dX6_tell_162 ic_0 <|
 x_iconst dX6_tell_163 ic_0 <|
 x_zastore rfl (vpd (by decide)) dX6_tell_164 <|
 x_aload_n dX6_tell_165 rfl <|
 x_getf (v := .ref 50) fl_X6_38 rfl rfl rfl dX6_tell_166 <|
 x_iconst dX6_tell_169 ic_1 <|
 x_iconst dX6_tell_170 ic_0 <|
 x_zastore rfl (vpd (by decide)) dX6_tell_171 <|
 x_aload_n dX6_tell_172 rfl <|
 x_iconst dX6_tell_173 ic_0 <|
 x_puti fp_X6_67 rfl rfl dX6_tell_174 <|
 x_iload_n dX6_tell_177 rfl <|
 x_ireturn rfl dX6_tell_178 ⟨_, rfl, h4⟩))) (fun c2 => x_iconst dX6_tell_131 ic_0 <|
 x_goto (tgt := 151) dX6_tell_132 (by decide) <|
 x_iastore rfl (vpd (by decide)) dX6_tell_151 <|
 x_aload_n dX6_tell_152 rfl <|
 x_iconst dX6_tell_153 ic_1 <|
 x_iconst dX6_tell_154 ic_0 <|
 x_callV (b := 40) (As := [.int (1 : Int32), .int (0 : Int32)]) ok_X6_copy ml_X6_113 (okM (by decide)) dX6_tell_155 rfl rfl (Nat.le_of_ble_eq_true rfl) rfl rfl rfl ((h.1 c1).2 c2) <|
 (kV (fun τ5 h6 => x_aload_n dX6_tell_158 rfl <|
 x_getf (v := .ref 50) fl_X6_38 rfl rfl rfl dX6_tell_159 <|
 x_iconst dX6_tell_162 ic_0 <|
 x_iconst dX6_tell_163 ic_0 <|
 x_zastore rfl (vpd (by decide)) dX6_tell_164 <|
 x_aload_n dX6_tell_165 rfl <|
 x_getf (v := .ref 50) fl_X6_38 rfl rfl rfl dX6_tell_166 <|
 x_iconst dX6_tell_169 ic_1 <|
 x_iconst dX6_tell_170 ic_0 <|
 x_zastore rfl (vpd (by decide)) dX6_tell_171 <|
 x_aload_n dX6_tell_172 rfl <|
 x_iconst dX6_tell_173 ic_0 <|
 x_puti fp_X6_67 rfl rfl dX6_tell_174 <|
 x_iload_n dX6_tell_177 rfl <|
 x_ireturn rfl dX6_tell_178 ⟨_, rfl, h6⟩)))) (fun c1 => x_aload_n dX6_tell_96 rfl <|
 x_getf (v := .ref 43) fl_X6_17 rfl rfl rfl dX6_tell_97 <|
 x_iload_n dX6_tell_100 rfl <|
 x_aload_n dX6_tell_101 rfl <|
 x_getf (v := .ref 43) fl_X6_17 rfl rfl rfl dX6_tell_102 <|
 x_bipush dX6_tell_105 bp_8 <|
 x_iload_n dX6_tell_107 rfl <|
 x_iadd dX6_tell_108 <|
 x_iaload (v := ((gm σ 43) ((8 : Int32) + v2).toNatClampNeg)) rfl (h.2 c1).1 rfl dX6_tell_109 <|
 x_iastore rfl (h.2 c1).2.1 dX6_tell_110 <|
 x_iinc (v := (v2 + 1)) (L2 := [some (.ref 40), some (.int v1), some (.int (v2 + 1))]) dX6_tell_111 rfl (by rw [show Int32.ofInt (1) = 1 by decide]) rfl (Nat.le_of_ble_eq_true rfl) <|
 x_goto (tgt := 90) dX6_tell_114 (by decide) <|
 (h.2 c1).2.2)
set_option maxRecDepth 100000 in
set_option maxHeartbeats 4000000 in
theorem M_X6_tell {E : EV} {Q : Sg → Int32 → Prop} {σ : Sg} (h : MetV E mi_X6_next [.ref 40] (sm (sm (si (si σ 4012 (0 : Int32)) 4016 (-9 : Int32)) 42 1 (0 : Int32)) 44 1 (0 : Int32)) (fun τ1 => K_X6_tell_31 E Q τ1 (0 : Int32))) : MetI E mi_X6_tell [.ref 40] σ Q :=
 met_of (L := [some (.ref 40), none, none]) pn_X6 rfl (Nat.le_of_ble_eq_true rfl) <|
 x_aload_n dX6_tell_0 rfl <|
 x_iconst dX6_tell_1 ic_0 <|
 x_puti fp_X6_73 rfl rfl dX6_tell_2 <|
 x_aload_n dX6_tell_5 rfl <|
 x_bipush dX6_tell_6 bp_m9 <|
 x_puti fp_X6_93 rfl rfl dX6_tell_8 <|
 x_aload_n dX6_tell_11 rfl <|
 x_getf (v := .ref 42) fl_X6_13 rfl rfl rfl dX6_tell_12 <|
 x_iconst dX6_tell_15 ic_1 <|
 x_iconst dX6_tell_16 ic_0 <|
 x_iastore rfl (vpd (by decide)) dX6_tell_17 <|
 x_aload_n dX6_tell_18 rfl <|
 x_getf (v := .ref 44) fl_X6_20 rfl rfl rfl dX6_tell_19 <|
 x_iconst dX6_tell_22 ic_1 <|
 x_iconst dX6_tell_23 ic_0 <|
 x_iastore rfl (vpd (by decide)) dX6_tell_24 <|
 x_iconst dX6_tell_25 ic_0 <|
 x_istore_n (L2 := [some (.ref 40), some (.int (0 : Int32)), none]) dX6_tell_26 rfl (Nat.le_of_ble_eq_true rfl) <|
 x_aload_n dX6_tell_27 rfl <|
 x_callV (b := 40) (As := []) ok_X6_next ml_X6_96 (okM (by decide)) dX6_tell_28 rfl rfl (Nat.le_of_ble_eq_true rfl) rfl rfl rfl h <|
 (kV (fun τ1 h2 => h2))
set_option maxRecDepth 100000 in
set_option maxHeartbeats 4000000 in
theorem M_X6_isOne {E : EV} {Q : Sg → Int32 → Prop} {σ : Sg} {a1 : Int32} (h : MetI E mi_X6_in [.int a1, .int (0 : Int32), .int (((gm σ 42) 0) - (1 : Int32))] σ (fun τ1 r2 => (r2 = 0 ∨ r2 = 1) ∧ Q τ1 r2)) : MetI E mi_X6_isOne [.ref 40, .int a1] σ Q :=
 met_of (L := [some (.ref 40), some (.int a1)]) pn_X6 rfl (Nat.le_of_ble_eq_true rfl) <|
 x_iload_n dX6_isOne_0 rfl <|
 x_iconst dX6_isOne_1 ic_0 <|
 x_aload_n dX6_isOne_2 rfl <|
 x_getf (v := .ref 42) fl_X6_13 rfl rfl rfl dX6_isOne_3 <|
 x_iconst dX6_isOne_6 ic_0 <|
 x_iaload (v := ((gm σ 42) 0)) rfl (vpd (by decide)) rfl dX6_isOne_7 <|
 x_iconst dX6_isOne_8 ic_1 <|
 x_isub dX6_isOne_9 <|
 x_callS (As := [.int a1, .int (0 : Int32), .int (((gm σ 42) 0) - (1 : Int32))]) ok_X6_in ml_X6_63 (okM (by decide)) dX6_isOne_10 rfl rfl (Nat.le_of_ble_eq_true rfl) h <|
 (kI (fun τ1 r2 h3 => x_zreturn rfl h3.1 dX6_isOne_13 ⟨_, rfl, h3.2⟩))
set_option maxRecDepth 100000 in
set_option maxHeartbeats 4000000 in
theorem M_X6_isThing {E : EV} {Q : Sg → Int32 → Prop} {σ : Sg} {a1 : Int32} (h : MetI E mi_X6_in [.int a1, .int (0 : Int32), .int (3 : Int32)] σ (fun τ1 r2 => (r2 = 0 ∨ r2 = 1) ∧ Q τ1 r2)) : MetI E mi_X6_isThing [.int a1] σ Q :=
 met_of (L := [some (.int a1)]) pn_X6 rfl (Nat.le_of_ble_eq_true rfl) <|
 x_iload_n dX6_isThing_0 rfl <|
 x_iconst dX6_isThing_1 ic_0 <|
 x_iconst dX6_isThing_2 ic_3 <|
 x_callS (As := [.int a1, .int (0 : Int32), .int (3 : Int32)]) ok_X6_in ml_X6_63 (okM (by decide)) dX6_isThing_3 rfl rfl (Nat.le_of_ble_eq_true rfl) h <|
 (kI (fun τ1 r2 h3 => x_zreturn rfl h3.1 dX6_isThing_6 ⟨_, rfl, h3.2⟩))
set_option maxRecDepth 100000 in
set_option maxHeartbeats 4000000 in
theorem M_X6_event {E : EV} {Q : Sg → Int32 → Prop} {σ : Sg} {a1 : Int32} {a2 : Int32} (h : MetI E mi_X6_in [.int a1, .int (0 : Int32), .int (((gm σ 44) 0) - (1 : Int32))] σ (fun τ1 r2 => ((r2 = 0) → Q τ1 (-1 : Int32)) ∧ ((¬ r2 = 0) → MetI E mi_X6_in [.int a2, .int (0 : Int32), .int (3 : Int32)] τ1 (fun τ5 r6 => ((¬ r6 = 0) → ((¬ a2 = 0) → ((¬ a2 = (1 : Int32)) → ((¬ a2 = (2 : Int32)) → vp_in a1 160 ∧ Q τ5 ((gm τ5 49) a1.toNatClampNeg)) ∧ ((a2 = (2 : Int32)) → vp_in a1 160 ∧ Q τ5 ((gm τ5 48) a1.toNatClampNeg))) ∧ ((a2 = (1 : Int32)) → vp_in a1 160 ∧ Q τ5 ((gm τ5 47) a1.toNatClampNeg))) ∧ ((a2 = 0) → vp_in a1 160 ∧ Q τ5 ((gm τ5 46) a1.toNatClampNeg))) ∧ ((r6 = 0) → Q τ5 (-1 : Int32)))))) : MetI E mi_X6_event [.ref 40, .int a1, .int a2] σ Q :=
 met_of (L := [some (.ref 40), some (.int a1), some (.int a2)]) pn_X6 rfl (Nat.le_of_ble_eq_true rfl) <|
 x_iload_n dX6_event_0 rfl <|
 x_iconst dX6_event_1 ic_0 <|
 x_aload_n dX6_event_2 rfl <|
 x_getf (v := .ref 44) fl_X6_20 rfl rfl rfl dX6_event_3 <|
 x_iconst dX6_event_6 ic_0 <|
 x_iaload (v := ((gm σ 44) 0)) rfl (vpd (by decide)) rfl dX6_event_7 <|
 x_iconst dX6_event_8 ic_1 <|
 x_isub dX6_event_9 <|
 x_callS (As := [.int a1, .int (0 : Int32), .int (((gm σ 44) 0) - (1 : Int32))]) ok_X6_in ml_X6_63 (okM (by decide)) dX6_event_10 rfl rfl (Nat.le_of_ble_eq_true rfl) h <|
 (kI (fun τ1 r2 h3 => x_if_eq (tgt := 25) dX6_event_13 (by decide) (fun c4 => x_iconst dX6_event_25 ic_m1 <|
 x_ireturn rfl dX6_event_26 ⟨_, rfl, (h3.1 c4)⟩) (fun c4 => x_iload_n dX6_event_16 rfl <|
 x_iconst dX6_event_17 ic_0 <|
 x_iconst dX6_event_18 ic_3 <|
 x_callS (As := [.int a2, .int (0 : Int32), .int (3 : Int32)]) ok_X6_in ml_X6_63 (okM (by decide)) dX6_event_19 rfl rfl (Nat.le_of_ble_eq_true rfl) (h3.2 c4) <|
 (kI (fun τ5 r6 h7 => x_if_ne (tgt := 27) dX6_event_22 (by decide) (fun c8 => x_iload_n dX6_event_27 rfl <|
 x_if_ne (tgt := 40) dX6_event_28 (by decide) (fun c9 => x_iload_n dX6_event_40 rfl <|
 x_iconst dX6_event_41 ic_1 <|
 x_icmp_ne (tgt := 54) dX6_event_42 (by decide) (fun c10 => x_iload_n dX6_event_54 rfl <|
 x_iconst dX6_event_55 ic_2 <|
 x_icmp_ne (tgt := 68) dX6_event_56 (by decide) (fun c11 => x_aload_n dX6_event_68 rfl <|
 x_getf (v := .ref 49) fl_X6_35 rfl rfl rfl dX6_event_69 <|
 x_iload_n dX6_event_72 rfl <|
 x_iaload (v := ((gm τ5 49) a1.toNatClampNeg)) rfl ((((h7.1 c8).1 c9).1 c10).1 c11).1 rfl dX6_event_73 <|
 x_ireturn rfl dX6_event_74 ⟨_, rfl, ((((h7.1 c8).1 c9).1 c10).1 c11).2⟩) (fun c11 => x_aload_n dX6_event_59 rfl <|
 x_getf (v := .ref 48) fl_X6_32 rfl rfl rfl dX6_event_60 <|
 x_iload_n dX6_event_63 rfl <|
 x_iaload (v := ((gm τ5 48) a1.toNatClampNeg)) rfl ((((h7.1 c8).1 c9).1 c10).2 c11).1 rfl dX6_event_64 <|
 x_goto (tgt := 74) dX6_event_65 (by decide) <|
 x_ireturn rfl dX6_event_74 ⟨_, rfl, ((((h7.1 c8).1 c9).1 c10).2 c11).2⟩)) (fun c10 => x_aload_n dX6_event_45 rfl <|
 x_getf (v := .ref 47) fl_X6_29 rfl rfl rfl dX6_event_46 <|
 x_iload_n dX6_event_49 rfl <|
 x_iaload (v := ((gm τ5 47) a1.toNatClampNeg)) rfl (((h7.1 c8).1 c9).2 c10).1 rfl dX6_event_50 <|
 x_goto (tgt := 74) dX6_event_51 (by decide) <|
 x_ireturn rfl dX6_event_74 ⟨_, rfl, (((h7.1 c8).1 c9).2 c10).2⟩)) (fun c9 => x_aload_n dX6_event_31 rfl <|
 x_getf (v := .ref 46) fl_X6_26 rfl rfl rfl dX6_event_32 <|
 x_iload_n dX6_event_35 rfl <|
 x_iaload (v := ((gm τ5 46) a1.toNatClampNeg)) rfl ((h7.1 c8).2 c9).1 rfl dX6_event_36 <|
 x_goto (tgt := 74) dX6_event_37 (by decide) <|
 x_ireturn rfl dX6_event_74 ⟨_, rfl, ((h7.1 c8).2 c9).2⟩)) (fun c8 => x_iconst dX6_event_25 ic_m1 <|
 x_ireturn rfl dX6_event_26 ⟨_, rfl, (h7.2 c8)⟩))))))
def K_X6_comes_61 (E : EV) (Q : Sg → Int32 → Prop) (σ : Sg) (v1 : Int32) (v2 : Int32) (v3 : Int32) (v4 : Int32) : Prop := J E mi_X6_comes (tgM E mi_X6_comes (qI Q)) 61 [some (.ref 40), some (.int v1), some (.int v2), some (.int v3), some (.int v4), none] [] σ
def K_X6_comes_90 (E : EV) (Q : Sg → Int32 → Prop) (σ : Sg) (v1 : Int32) (v2 : Int32) (v3 : Int32) (v4 : Int32) : Prop := J E mi_X6_comes (tgM E mi_X6_comes (qI Q)) 90 [some (.ref 40), some (.int v1), some (.int v2), some (.int v3), some (.int v4), none] [] σ
set_option maxRecDepth 100000 in
set_option maxHeartbeats 4000000 in
theorem B_X6_comes_61 {E : EV} {Q : Sg → Int32 → Prop} {σ : Sg} {v1 : Int32} {v2 : Int32} {v3 : Int32} {v4 : Int32} (h : ((((gm σ 44) 0) = (40 : Int32)) → Q σ (-3 : Int32)) ∧ ((¬ ((gm σ 44) 0) = (40 : Int32)) → ((¬ v1 = (1 : Int32)) → K_X6_comes_90 E Q σ v1 v2 v3 v4) ∧ ((v1 = (1 : Int32)) → MetI E mi_X6_maybesIn [.ref 40, .int (0 : Int32)] σ (fun τ3 r4 => ((¬ r4 = (6 : Int32)) → K_X6_comes_90 E Q τ3 v1 v2 v3 v4) ∧ ((r4 = (6 : Int32)) → Q τ3 (-3 : Int32)))))) : K_X6_comes_61 E Q σ v1 v2 v3 v4 :=
 x_aload_n dX6_comes_61 rfl <|
 x_getf (v := .ref 44) fl_X6_20 rfl rfl rfl dX6_comes_62 <|
 x_iconst dX6_comes_65 ic_0 <|
 x_iaload (v := ((gm σ 44) 0)) rfl (vpd (by decide)) rfl dX6_comes_66 <|
 x_bipush dX6_comes_67 bp_40 <|
 x_icmp_eq (tgt := 87) dX6_comes_69 (by decide) (fun c1 => x_bipush dX6_comes_87 bp_m3 <|
 x_ireturn rfl dX6_comes_89 ⟨_, rfl, (h.1 c1)⟩) (fun c1 => x_iload_n dX6_comes_72 rfl <|
 x_iconst dX6_comes_73 ic_1 <|
 x_icmp_ne (tgt := 90) dX6_comes_74 (by decide) (fun c2 => ((h.2 c1).1 c2)) (fun c2 => x_aload_n dX6_comes_77 rfl <|
 x_iconst dX6_comes_78 ic_0 <|
 x_callV (b := 40) (As := [.int (0 : Int32)]) ok_X6_maybesIn ml_X6_103 (okM (by decide)) dX6_comes_79 rfl rfl (Nat.le_of_ble_eq_true rfl) rfl rfl rfl ((h.2 c1).2 c2) <|
 (kI (fun τ3 r4 h5 => x_bipush dX6_comes_82 bp_6 <|
 x_icmp_ne (tgt := 90) dX6_comes_84 (by decide) (fun c6 => (h5.1 c6)) (fun c6 => x_bipush dX6_comes_87 bp_m3 <|
 x_ireturn rfl dX6_comes_89 ⟨_, rfl, (h5.2 c6)⟩)))))
set_option maxRecDepth 100000 in
set_option maxHeartbeats 4000000 in
theorem B_X6_comes_90 {E : EV} {Q : Sg → Int32 → Prop} {σ : Sg} {v1 : Int32} {v2 : Int32} {v3 : Int32} {v4 : Int32} (h : vp_in ((gm σ 44) 0) 160 ∧ Q (sm (sm (sm (sm (sm σ 46 ((gm σ 44) 0).toNatClampNeg v1) 47 ((gm σ 44) 0).toNatClampNeg ((gm σ 45) 0)) 48 ((gm σ 44) 0).toNatClampNeg v2) 49 ((gm σ 44) 0).toNatClampNeg v3) 44 0 (((gm σ 44) 0) + (1 : Int32))) ((gm (sm (sm (sm (sm (sm σ 46 ((gm σ 44) 0).toNatClampNeg v1) 47 ((gm σ 44) 0).toNatClampNeg ((gm σ 45) 0)) 48 ((gm σ 44) 0).toNatClampNeg v2) 49 ((gm σ 44) 0).toNatClampNeg v3) 44 0 (((gm σ 44) 0) + (1 : Int32))) 44) 0)) : K_X6_comes_90 E Q σ v1 v2 v3 v4 :=
 x_aload_n dX6_comes_90 rfl <|
 x_getf (v := .ref 44) fl_X6_20 rfl rfl rfl dX6_comes_91 <|
 x_iconst dX6_comes_94 ic_0 <|
 x_iaload (v := ((gm σ 44) 0)) rfl (vpd (by decide)) rfl dX6_comes_95 <|
 x_istore (L2 := [some (.ref 40), some (.int v1), some (.int v2), some (.int v3), some (.int v4), some (.int ((gm σ 44) 0))]) dX6_comes_96 rfl (Nat.le_of_ble_eq_true rfl) <|
 x_aload_n dX6_comes_98 rfl <|
 x_getf (v := .ref 46) fl_X6_26 rfl rfl rfl dX6_comes_99 <|
 x_iload dX6_comes_102 rfl <|
 x_iload_n dX6_comes_104 rfl <|
 x_iastore rfl h.1 dX6_comes_105 <|
 x_aload_n dX6_comes_106 rfl <|
 x_getf (v := .ref 47) fl_X6_29 rfl rfl rfl dX6_comes_107 <|
 x_iload dX6_comes_110 rfl <|
 x_aload_n dX6_comes_112 rfl <|
 x_getf (v := .ref 45) fl_X6_23 rfl rfl rfl dX6_comes_113 <|
 x_iconst dX6_comes_116 ic_0 <|
 x_iaload (v := ((gm σ 45) 0)) rfl (vpd (by decide)) rfl dX6_comes_117 <|
 x_iastore rfl h.1 dX6_comes_118 <|
 x_aload_n dX6_comes_119 rfl <|
 x_getf (v := .ref 48) fl_X6_32 rfl rfl rfl dX6_comes_120 <|
 x_iload dX6_comes_123 rfl <|
 x_iload_n dX6_comes_125 rfl <|
 x_iastore rfl h.1 dX6_comes_126 <|
 x_aload_n dX6_comes_127 rfl <|
 x_getf (v := .ref 49) fl_X6_35 rfl rfl rfl dX6_comes_128 <|
 x_iload dX6_comes_131 rfl <|
 x_iload_n dX6_comes_133 rfl <|
 x_iastore rfl h.1 dX6_comes_134 <|
 x_aload_n dX6_comes_135 rfl <|
 x_getf (v := .ref 44) fl_X6_20 rfl rfl rfl dX6_comes_136 <|
 x_iconst dX6_comes_139 ic_0 <|
 x_dup2 dX6_comes_140 rfl rfl <|
 x_iaload (v := ((gm σ 44) 0)) rfl (vpd (by decide)) rfl dX6_comes_141 <|
 x_iconst dX6_comes_142 ic_1 <|
 x_iadd dX6_comes_143 <|
 x_iastore rfl (vpd (by decide)) dX6_comes_144 <|
 x_aload_n dX6_comes_145 rfl <|
 x_getf (v := .ref 44) fl_X6_20 rfl rfl rfl dX6_comes_146 <|
 x_iconst dX6_comes_149 ic_0 <|
 x_iaload (v := ((gm (sm (sm (sm (sm (sm σ 46 ((gm σ 44) 0).toNatClampNeg v1) 47 ((gm σ 44) 0).toNatClampNeg ((gm σ 45) 0)) 48 ((gm σ 44) 0).toNatClampNeg v2) 49 ((gm σ 44) 0).toNatClampNeg v3) 44 0 (((gm σ 44) 0) + (1 : Int32))) 44) 0)) rfl (vpd (by decide)) rfl dX6_comes_150 <|
 x_ireturn rfl dX6_comes_151 ⟨_, rfl, h.2⟩
set_option maxRecDepth 100000 in
set_option maxHeartbeats 4000000 in
theorem M_X6_comes {E : EV} {Q : Sg → Int32 → Prop} {σ : Sg} {a1 : Int32} {a2 : Int32} {a3 : Int32} (h : MetI E mi_X6_in [.int a1, .int (0 : Int32), .int (4 : Int32)] σ (fun τ1 r2 => ((r2 = 0) → Q τ1 (-1 : Int32)) ∧ ((¬ r2 = 0) → MetI E mi_X6_isOne [.ref 40, .int a2] τ1 (fun τ5 r6 => ((r6 = 0) → Q τ5 (-1 : Int32)) ∧ ((¬ r6 = 0) → (((1 : Int32) < a1) → MetI E mi_X6_in [.int a3, .int (0 : Int32), .int (3 : Int32)] τ5 (fun τ10 r11 => ((r11 = 0) → Q τ10 (-1 : Int32)) ∧ ((¬ r11 = 0) → K_X6_comes_61 E Q τ10 a1 a2 a3 (1 : Int32)))) ∧ ((¬ (1 : Int32) < a1) → MetI E mi_X6_isOne [.ref 40, .int a3] τ5 (fun τ14 r15 => ((r15 = 0) → Q τ14 (-1 : Int32)) ∧ ((¬ r15 = 0) → ((a2 = a3) → Q τ14 (-1 : Int32)) ∧ ((¬ a2 = a3) → K_X6_comes_61 E Q τ14 a1 a2 a3 (1 : Int32)))))))))) : MetI E mi_X6_comes [.ref 40, .int a1, .int a2, .int a3] σ Q :=
 met_of (L := [some (.ref 40), some (.int a1), some (.int a2), some (.int a3), none, none]) pn_X6 rfl (Nat.le_of_ble_eq_true rfl) <|
 x_iload_n dX6_comes_0 rfl <|
 x_iconst dX6_comes_1 ic_0 <|
 x_iconst dX6_comes_2 ic_4 <|
 x_callS (As := [.int a1, .int (0 : Int32), .int (4 : Int32)]) ok_X6_in ml_X6_63 (okM (by decide)) dX6_comes_3 rfl rfl (Nat.le_of_ble_eq_true rfl) h <|
 (kI (fun τ1 r2 h3 => x_if_eq (tgt := 51) dX6_comes_6 (by decide) (fun c4 => x_iconst dX6_comes_51 ic_0 <|
 x_istore (L2 := [some (.ref 40), some (.int a1), some (.int a2), some (.int a3), some (.int (0 : Int32)), none]) dX6_comes_52 rfl (Nat.le_of_ble_eq_true rfl) <|
 x_iload dX6_comes_54 rfl <|
 x_if_ne (tgt := 61) dX6_comes_56 (by decide) (fun c => absurd c (by decide)) (fun _ => x_iconst dX6_comes_59 ic_m1 <|
 x_ireturn rfl dX6_comes_60 ⟨_, rfl, (h3.1 c4)⟩)) (fun c4 => x_aload_n dX6_comes_9 rfl <|
 x_iload_n dX6_comes_10 rfl <|
 x_callV (b := 40) (As := [.int a2]) ok_X6_isOne ml_X6_117 (okM (by decide)) dX6_comes_11 rfl rfl (Nat.le_of_ble_eq_true rfl) rfl rfl rfl (h3.2 c4) <|
 (kI (fun τ5 r6 h7 => x_if_eq (tgt := 51) dX6_comes_14 (by decide) (fun c8 => x_iconst dX6_comes_51 ic_0 <|
 x_istore (L2 := [some (.ref 40), some (.int a1), some (.int a2), some (.int a3), some (.int (0 : Int32)), none]) dX6_comes_52 rfl (Nat.le_of_ble_eq_true rfl) <|
 x_iload dX6_comes_54 rfl <|
 x_if_ne (tgt := 61) dX6_comes_56 (by decide) (fun c => absurd c (by decide)) (fun _ => x_iconst dX6_comes_59 ic_m1 <|
 x_ireturn rfl dX6_comes_60 ⟨_, rfl, (h7.1 c8)⟩)) (fun c8 => x_iload_n dX6_comes_17 rfl <|
 x_iconst dX6_comes_18 ic_1 <|
 x_icmp_gt (tgt := 38) dX6_comes_19 (by decide) (fun c9 => x_iload_n dX6_comes_38 rfl <|
 x_iconst dX6_comes_39 ic_0 <|
 x_iconst dX6_comes_40 ic_3 <|
 x_callS (As := [.int a3, .int (0 : Int32), .int (3 : Int32)]) ok_X6_in ml_X6_63 (okM (by decide)) dX6_comes_41 rfl rfl (Nat.le_of_ble_eq_true rfl) ((h7.2 c8).1 c9) <|
 (kI (fun τ10 r11 h12 => x_if_eq (tgt := 51) dX6_comes_44 (by decide) (fun c13 => x_iconst dX6_comes_51 ic_0 <|
 x_istore (L2 := [some (.ref 40), some (.int a1), some (.int a2), some (.int a3), some (.int (0 : Int32)), none]) dX6_comes_52 rfl (Nat.le_of_ble_eq_true rfl) <|
 x_iload dX6_comes_54 rfl <|
 x_if_ne (tgt := 61) dX6_comes_56 (by decide) (fun c => absurd c (by decide)) (fun _ => x_iconst dX6_comes_59 ic_m1 <|
 x_ireturn rfl dX6_comes_60 ⟨_, rfl, (h12.1 c13)⟩)) (fun c13 => x_iconst dX6_comes_47 ic_1 <|
 x_goto (tgt := 52) dX6_comes_48 (by decide) <|
 x_istore (L2 := [some (.ref 40), some (.int a1), some (.int a2), some (.int a3), some (.int (1 : Int32)), none]) dX6_comes_52 rfl (Nat.le_of_ble_eq_true rfl) <|
 x_iload dX6_comes_54 rfl <|
 x_if_ne (tgt := 61) dX6_comes_56 (by decide) (fun _ => (h12.2 c13)) (fun c => absurd c (by decide)))))) (fun c9 => x_aload_n dX6_comes_22 rfl <|
 x_iload_n dX6_comes_23 rfl <|
 x_callV (b := 40) (As := [.int a3]) ok_X6_isOne ml_X6_117 (okM (by decide)) dX6_comes_24 rfl rfl (Nat.le_of_ble_eq_true rfl) rfl rfl rfl ((h7.2 c8).2 c9) <|
 (kI (fun τ14 r15 h16 => x_if_eq (tgt := 51) dX6_comes_27 (by decide) (fun c17 => x_iconst dX6_comes_51 ic_0 <|
 x_istore (L2 := [some (.ref 40), some (.int a1), some (.int a2), some (.int a3), some (.int (0 : Int32)), none]) dX6_comes_52 rfl (Nat.le_of_ble_eq_true rfl) <|
 x_iload dX6_comes_54 rfl <|
 x_if_ne (tgt := 61) dX6_comes_56 (by decide) (fun c => absurd c (by decide)) (fun _ => x_iconst dX6_comes_59 ic_m1 <|
 x_ireturn rfl dX6_comes_60 ⟨_, rfl, (h16.1 c17)⟩)) (fun c17 => x_iload_n dX6_comes_30 rfl <|
 x_iload_n dX6_comes_31 rfl <|
 x_icmp_eq (tgt := 51) dX6_comes_32 (by decide) (fun c18 => x_iconst dX6_comes_51 ic_0 <|
 x_istore (L2 := [some (.ref 40), some (.int a1), some (.int a2), some (.int a3), some (.int (0 : Int32)), none]) dX6_comes_52 rfl (Nat.le_of_ble_eq_true rfl) <|
 x_iload dX6_comes_54 rfl <|
 x_if_ne (tgt := 61) dX6_comes_56 (by decide) (fun c => absurd c (by decide)) (fun _ => x_iconst dX6_comes_59 ic_m1 <|
 x_ireturn rfl dX6_comes_60 ⟨_, rfl, ((h16.2 c17).1 c18)⟩)) (fun c18 => x_goto (tgt := 47) dX6_comes_35 (by decide) <|
 x_iconst dX6_comes_47 ic_1 <|
 x_goto (tgt := 52) dX6_comes_48 (by decide) <|
 x_istore (L2 := [some (.ref 40), some (.int a1), some (.int a2), some (.int a3), some (.int (1 : Int32)), none]) dX6_comes_52 rfl (Nat.le_of_ble_eq_true rfl) <|
 x_iload dX6_comes_54 rfl <|
 x_if_ne (tgt := 61) dX6_comes_56 (by decide) (fun _ => ((h16.2 c17).2 c18)) (fun c => absurd c (by decide)))))))))))))
set_option maxRecDepth 100000 in
set_option maxHeartbeats 4000000 in
theorem M_X6_days {E : EV} {Q : Sg → Int32 → Prop} {σ : Sg} {a1 : Int32} (h : MetI E mi_X6_in [.int a1, .int (1 : Int32), .int (99 : Int32)] σ (fun τ1 r2 => ((¬ r2 = 0) → (((((gm τ1 45) 0) + a1) ≤ (99 : Int32)) → Q (sm τ1 45 0 (((gm τ1 45) 0) + a1)) ((gm (sm τ1 45 0 (((gm τ1 45) 0) + a1)) 45) 0)) ∧ ((¬ (((gm τ1 45) 0) + a1) ≤ (99 : Int32)) → Q τ1 (-2 : Int32))) ∧ ((r2 = 0) → Q τ1 (-1 : Int32)))) : MetI E mi_X6_days [.ref 40, .int a1] σ Q :=
 met_of (L := [some (.ref 40), some (.int a1)]) pn_X6 rfl (Nat.le_of_ble_eq_true rfl) <|
 x_iload_n dX6_days_0 rfl <|
 x_iconst dX6_days_1 ic_1 <|
 x_bipush dX6_days_2 bp_99 <|
 x_callS (As := [.int a1, .int (1 : Int32), .int (99 : Int32)]) ok_X6_in ml_X6_63 (okM (by decide)) dX6_days_4 rfl rfl (Nat.le_of_ble_eq_true rfl) h <|
 (kI (fun τ1 r2 h3 => x_if_ne (tgt := 12) dX6_days_7 (by decide) (fun c4 => x_aload_n dX6_days_12 rfl <|
 x_getf (v := .ref 45) fl_X6_23 rfl rfl rfl dX6_days_13 <|
 x_iconst dX6_days_16 ic_0 <|
 x_iaload (v := ((gm τ1 45) 0)) rfl (vpd (by decide)) rfl dX6_days_17 <|
 x_iload_n dX6_days_18 rfl <|
 x_iadd dX6_days_19 <|
 x_bipush dX6_days_20 bp_99 <|
 x_icmp_le (tgt := 28) dX6_days_22 (by decide) (fun c5 => x_aload_n dX6_days_28 rfl <|
 x_getf (v := .ref 45) fl_X6_23 rfl rfl rfl dX6_days_29 <|
 x_iconst dX6_days_32 ic_0 <|
 x_dup2 dX6_days_33 rfl rfl <|
 x_iaload (v := ((gm τ1 45) 0)) rfl (vpd (by decide)) rfl dX6_days_34 <|
 x_iload_n dX6_days_35 rfl <|
 x_iadd dX6_days_36 <|
 x_iastore rfl (vpd (by decide)) dX6_days_37 <|
 x_aload_n dX6_days_38 rfl <|
 x_getf (v := .ref 45) fl_X6_23 rfl rfl rfl dX6_days_39 <|
 x_iconst dX6_days_42 ic_0 <|
 x_iaload (v := ((gm (sm τ1 45 0 (((gm τ1 45) 0) + a1)) 45) 0)) rfl (vpd (by decide)) rfl dX6_days_43 <|
 x_ireturn rfl dX6_days_44 ⟨_, rfl, ((h3.1 c4).1 c5)⟩) (fun c5 => x_bipush dX6_days_25 bp_m2 <|
 x_ireturn rfl dX6_days_27 ⟨_, rfl, ((h3.1 c4).2 c5)⟩)) (fun c4 => x_iconst dX6_days_10 ic_m1 <|
 x_ireturn rfl dX6_days_11 ⟨_, rfl, (h3.2 c4)⟩)))
set_option maxRecDepth 100000 in
set_option maxHeartbeats 4000000 in
theorem M_X6_undo {E : EV} {Q : Sg → Int32 → Prop} {σ : Sg} (h : ((¬ ((gm σ 44) 0) = 0) → Q (sm σ 44 0 (((gm σ 44) 0) - (1 : Int32))) ((gm (sm σ 44 0 (((gm σ 44) 0) - (1 : Int32))) 44) 0)) ∧ ((((gm σ 44) 0) = 0) → Q σ (-2 : Int32))) : MetI E mi_X6_undo [.ref 40] σ Q :=
 met_of (L := [some (.ref 40)]) pn_X6 rfl (Nat.le_of_ble_eq_true rfl) <|
 x_aload_n dX6_undo_0 rfl <|
 x_getf (v := .ref 44) fl_X6_20 rfl rfl rfl dX6_undo_1 <|
 x_iconst dX6_undo_4 ic_0 <|
 x_iaload (v := ((gm σ 44) 0)) rfl (vpd (by decide)) rfl dX6_undo_5 <|
 x_if_ne (tgt := 12) dX6_undo_6 (by decide) (fun c1 => x_aload_n dX6_undo_12 rfl <|
 x_getf (v := .ref 44) fl_X6_20 rfl rfl rfl dX6_undo_13 <|
 x_iconst dX6_undo_16 ic_0 <|
 x_dup2 dX6_undo_17 rfl rfl <|
 x_iaload (v := ((gm σ 44) 0)) rfl (vpd (by decide)) rfl dX6_undo_18 <|
 x_iconst dX6_undo_19 ic_1 <|
 x_isub dX6_undo_20 <|
 x_iastore rfl (vpd (by decide)) dX6_undo_21 <|
 x_aload_n dX6_undo_22 rfl <|
 x_getf (v := .ref 44) fl_X6_20 rfl rfl rfl dX6_undo_23 <|
 x_iconst dX6_undo_26 ic_0 <|
 x_iaload (v := ((gm (sm σ 44 0 (((gm σ 44) 0) - (1 : Int32))) 44) 0)) rfl (vpd (by decide)) rfl dX6_undo_27 <|
 x_ireturn rfl dX6_undo_28 ⟨_, rfl, (h.1 c1)⟩) (fun c1 => x_bipush dX6_undo_9 bp_m2 <|
 x_ireturn rfl dX6_undo_11 ⟨_, rfl, (h.2 c1)⟩)
set_option maxRecDepth 100000 in
set_option maxHeartbeats 4000000 in
theorem M_X6_plain {E : EV} {Q : Sg → Prop} {σ : Sg} (h : Q (si (si (si σ 4024 (0 : Int32)) 4026 (100 : Int32)) 4027 (-9 : Int32))) : MetV E mi_X6_plain [.ref 40] σ Q :=
 met_of (L := [some (.ref 40)]) pn_X6 rfl (Nat.le_of_ble_eq_true rfl) <|
 x_aload_n dX6_plain_0 rfl <|
 x_iconst dX6_plain_1 ic_0 <|
 x_puti fp_X6_121 rfl rfl dX6_plain_2 <|
 x_aload_n dX6_plain_5 rfl <|
 x_bipush dX6_plain_6 bp_100 <|
 x_puti fp_X6_124 rfl rfl dX6_plain_8 <|
 x_aload_n dX6_plain_11 rfl <|
 x_bipush dX6_plain_12 bp_m9 <|
 x_puti fp_X6_127 rfl rfl dX6_plain_14 <|
 x_return rfl dX6_plain_17 ⟨rfl, h⟩
set_option maxRecDepth 100000 in
set_option maxHeartbeats 4000000 in
theorem M_X6_think {E : EV} {Q : Sg → Prop} {σ : Sg} {a1 : Int32} {a2 : Int32} (h : vp_in (((4 : Int32) * a1) + a2) 32 ∧ ((¬ ((gm σ 52) (((4 : Int32) * a1) + a2).toNatClampNeg) = 0) → Q (sm σ 52 (((4 : Int32) * a1) + a2).toNatClampNeg ((gm σ 52) (((4 : Int32) * a1) + a2).toNatClampNeg))) ∧ ((((gm σ 52) (((4 : Int32) * a1) + a2).toNatClampNeg) = 0) → Q (sm σ 52 (((4 : Int32) * a1) + a2).toNatClampNeg ((1 : Int32) <<< (a1 &&& 31))))) : MetV E mi_X6_think [.ref 40, .int a1, .int a2] σ Q :=
 met_of (L := [some (.ref 40), some (.int a1), some (.int a2)]) pn_X6 rfl (Nat.le_of_ble_eq_true rfl) <|
 x_aload_n dX6_think_0 rfl <|
 x_getf (v := .ref 52) fl_X6_45 rfl rfl rfl dX6_think_1 <|
 x_iconst dX6_think_4 ic_4 <|
 x_iload_n dX6_think_5 rfl <|
 x_imul dX6_think_6 <|
 x_iload_n dX6_think_7 rfl <|
 x_iadd dX6_think_8 <|
 x_aload_n dX6_think_9 rfl <|
 x_getf (v := .ref 52) fl_X6_45 rfl rfl rfl dX6_think_10 <|
 x_iconst dX6_think_13 ic_4 <|
 x_iload_n dX6_think_14 rfl <|
 x_imul dX6_think_15 <|
 x_iload_n dX6_think_16 rfl <|
 x_iadd dX6_think_17 <|
 x_iaload (v := ((gm σ 52) (((4 : Int32) * a1) + a2).toNatClampNeg)) rfl h.1 rfl dX6_think_18 <|
 x_if_ne (tgt := 28) dX6_think_19 (by decide) (fun c1 => x_aload_n dX6_think_28 rfl <|
 x_getf (v := .ref 52) fl_X6_45 rfl rfl rfl dX6_think_29 <|
 x_iconst dX6_think_32 ic_4 <|
 x_iload_n dX6_think_33 rfl <|
 x_imul dX6_think_34 <|
 x_iload_n dX6_think_35 rfl <|
 x_iadd dX6_think_36 <|
 x_iaload (v := ((gm σ 52) (((4 : Int32) * a1) + a2).toNatClampNeg)) rfl h.1 rfl dX6_think_37 <|
 x_iastore rfl h.1 dX6_think_38 <|
 x_return rfl dX6_think_39 ⟨rfl, (h.2.1 c1)⟩) (fun c1 => x_iconst dX6_think_22 ic_1 <|
 x_iload_n dX6_think_23 rfl <|
 x_ishl dX6_think_24 <|
 x_goto (tgt := 38) dX6_think_25 (by decide) <|
 x_iastore rfl h.1 dX6_think_38 <|
 x_return rfl dX6_think_39 ⟨rfl, (h.2.2 c1)⟩)
set_option maxRecDepth 100000 in
set_option maxHeartbeats 4000000 in
theorem M_X6_areApart {E : EV} {Q : Sg → Int32 → Prop} {σ : Sg} {a1 : Int32} {a2 : Int32} {a3 : Int32} {a4 : Int32} (h : vp_in (((4 : Int32) * a2) + a1) 32 ∧ vp_in (((4 : Int32) * a3) + a1) 32 ∧ vp_in (((4 : Int32) * a4) + a1) 32 ∧ ((((gm σ 53) (((4 : Int32) * a2) + a1).toNatClampNeg) = 0) → Q σ (0 : Int32)) ∧ ((¬ ((gm σ 53) (((4 : Int32) * a2) + a1).toNatClampNeg) = 0) → ((((gm σ 53) (((4 : Int32) * a3) + a1).toNatClampNeg) = 0) → Q σ (0 : Int32)) ∧ ((¬ ((gm σ 53) (((4 : Int32) * a3) + a1).toNatClampNeg) = 0) → ((((gm σ 53) (((4 : Int32) * a4) + a1).toNatClampNeg) = 0) → Q σ (0 : Int32)) ∧ ((¬ ((gm σ 53) (((4 : Int32) * a4) + a1).toNatClampNeg) = 0) → ((¬ (((gm σ 53) (((4 : Int32) * a2) + a1).toNatClampNeg) &&& ((gm σ 53) (((4 : Int32) * a3) + a1).toNatClampNeg)) = 0) → Q σ (0 : Int32)) ∧ (((((gm σ 53) (((4 : Int32) * a2) + a1).toNatClampNeg) &&& ((gm σ 53) (((4 : Int32) * a3) + a1).toNatClampNeg)) = 0) → ((¬ (((gm σ 53) (((4 : Int32) * a2) + a1).toNatClampNeg) &&& ((gm σ 53) (((4 : Int32) * a4) + a1).toNatClampNeg)) = 0) → Q σ (0 : Int32)) ∧ (((((gm σ 53) (((4 : Int32) * a2) + a1).toNatClampNeg) &&& ((gm σ 53) (((4 : Int32) * a4) + a1).toNatClampNeg)) = 0) → ((¬ (((gm σ 53) (((4 : Int32) * a3) + a1).toNatClampNeg) &&& ((gm σ 53) (((4 : Int32) * a4) + a1).toNatClampNeg)) = 0) → Q σ (0 : Int32)) ∧ (((((gm σ 53) (((4 : Int32) * a3) + a1).toNatClampNeg) &&& ((gm σ 53) (((4 : Int32) * a4) + a1).toNatClampNeg)) = 0) → Q σ (1 : Int32)))))))) : MetI E mi_X6_areApart [.ref 40, .int a1, .int a2, .int a3, .int a4] σ Q :=
 met_of (L := [some (.ref 40), some (.int a1), some (.int a2), some (.int a3), some (.int a4), none, none, none]) pn_X6 rfl (Nat.le_of_ble_eq_true rfl) <|
 x_aload_n dX6_areApart_0 rfl <|
 x_getf (v := .ref 53) fl_X6_48 rfl rfl rfl dX6_areApart_1 <|
 x_iconst dX6_areApart_4 ic_4 <|
 x_iload_n dX6_areApart_5 rfl <|
 x_imul dX6_areApart_6 <|
 x_iload_n dX6_areApart_7 rfl <|
 x_iadd dX6_areApart_8 <|
 x_iaload (v := ((gm σ 53) (((4 : Int32) * a2) + a1).toNatClampNeg)) rfl h.1 rfl dX6_areApart_9 <|
 x_istore (L2 := [some (.ref 40), some (.int a1), some (.int a2), some (.int a3), some (.int a4), some (.int ((gm σ 53) (((4 : Int32) * a2) + a1).toNatClampNeg)), none, none]) dX6_areApart_10 rfl (Nat.le_of_ble_eq_true rfl) <|
 x_aload_n dX6_areApart_12 rfl <|
 x_getf (v := .ref 53) fl_X6_48 rfl rfl rfl dX6_areApart_13 <|
 x_iconst dX6_areApart_16 ic_4 <|
 x_iload_n dX6_areApart_17 rfl <|
 x_imul dX6_areApart_18 <|
 x_iload_n dX6_areApart_19 rfl <|
 x_iadd dX6_areApart_20 <|
 x_iaload (v := ((gm σ 53) (((4 : Int32) * a3) + a1).toNatClampNeg)) rfl h.2.1 rfl dX6_areApart_21 <|
 x_istore (L2 := [some (.ref 40), some (.int a1), some (.int a2), some (.int a3), some (.int a4), some (.int ((gm σ 53) (((4 : Int32) * a2) + a1).toNatClampNeg)), some (.int ((gm σ 53) (((4 : Int32) * a3) + a1).toNatClampNeg)), none]) dX6_areApart_22 rfl (Nat.le_of_ble_eq_true rfl) <|
 x_aload_n dX6_areApart_24 rfl <|
 x_getf (v := .ref 53) fl_X6_48 rfl rfl rfl dX6_areApart_25 <|
 x_iconst dX6_areApart_28 ic_4 <|
 x_iload dX6_areApart_29 rfl <|
 x_imul dX6_areApart_31 <|
 x_iload_n dX6_areApart_32 rfl <|
 x_iadd dX6_areApart_33 <|
 x_iaload (v := ((gm σ 53) (((4 : Int32) * a4) + a1).toNatClampNeg)) rfl h.2.2.1 rfl dX6_areApart_34 <|
 x_istore (L2 := [some (.ref 40), some (.int a1), some (.int a2), some (.int a3), some (.int a4), some (.int ((gm σ 53) (((4 : Int32) * a2) + a1).toNatClampNeg)), some (.int ((gm σ 53) (((4 : Int32) * a3) + a1).toNatClampNeg)), some (.int ((gm σ 53) (((4 : Int32) * a4) + a1).toNatClampNeg))]) dX6_areApart_35 rfl (Nat.le_of_ble_eq_true rfl) <|
 x_iload dX6_areApart_37 rfl <|
 x_if_eq (tgt := 80) dX6_areApart_39 (by decide) (fun c1 => x_iconst dX6_areApart_80 ic_0 <|
 x_zreturn rfl (Or.inl rfl) dX6_areApart_81 ⟨_, rfl, (h.2.2.2.1 c1)⟩) (fun c1 => x_iload dX6_areApart_42 rfl <|
 x_if_eq (tgt := 80) dX6_areApart_44 (by decide) (fun c2 => x_iconst dX6_areApart_80 ic_0 <|
 x_zreturn rfl (Or.inl rfl) dX6_areApart_81 ⟨_, rfl, ((h.2.2.2.2 c1).1 c2)⟩) (fun c2 => x_iload dX6_areApart_47 rfl <|
 x_if_eq (tgt := 80) dX6_areApart_49 (by decide) (fun c3 => x_iconst dX6_areApart_80 ic_0 <|
 x_zreturn rfl (Or.inl rfl) dX6_areApart_81 ⟨_, rfl, (((h.2.2.2.2 c1).2 c2).1 c3)⟩) (fun c3 => x_iload dX6_areApart_52 rfl <|
 x_iload dX6_areApart_54 rfl <|
 x_iand dX6_areApart_56 <|
 x_if_ne (tgt := 80) dX6_areApart_57 (by decide) (fun c4 => x_iconst dX6_areApart_80 ic_0 <|
 x_zreturn rfl (Or.inl rfl) dX6_areApart_81 ⟨_, rfl, ((((h.2.2.2.2 c1).2 c2).2 c3).1 c4)⟩) (fun c4 => x_iload dX6_areApart_60 rfl <|
 x_iload dX6_areApart_62 rfl <|
 x_iand dX6_areApart_64 <|
 x_if_ne (tgt := 80) dX6_areApart_65 (by decide) (fun c5 => x_iconst dX6_areApart_80 ic_0 <|
 x_zreturn rfl (Or.inl rfl) dX6_areApart_81 ⟨_, rfl, (((((h.2.2.2.2 c1).2 c2).2 c3).2 c4).1 c5)⟩) (fun c5 => x_iload dX6_areApart_68 rfl <|
 x_iload dX6_areApart_70 rfl <|
 x_iand dX6_areApart_72 <|
 x_if_ne (tgt := 80) dX6_areApart_73 (by decide) (fun c6 => x_iconst dX6_areApart_80 ic_0 <|
 x_zreturn rfl (Or.inl rfl) dX6_areApart_81 ⟨_, rfl, ((((((h.2.2.2.2 c1).2 c2).2 c3).2 c4).2 c5).1 c6)⟩) (fun c6 => x_iconst dX6_areApart_76 ic_1 <|
 x_goto (tgt := 81) dX6_areApart_77 (by decide) <|
 x_zreturn rfl (Or.inr rfl) dX6_areApart_81 ⟨_, rfl, ((((((h.2.2.2.2 c1).2 c2).2 c3).2 c4).2 c5).2 c6)⟩))))))
def K_X6_speak_37 (E : EV) (Q : Sg → Prop) (σ : Sg) (v1 : Int32) (v2 : Int32) (v3 : Int32) (v4 : Int32) : Prop := J E mi_X6_speak (tgM E mi_X6_speak (qV Q)) 37 [some (.ref 40), some (.int v1), some (.int v2), some (.int v3), some (.int v4), none, none] [] σ
def K_X6_speak_61 (E : EV) (Q : Sg → Prop) (σ : Sg) (v1 : Int32) (v2 : Int32) (v3 : Int32) (v4 : Int32) (v5 : Int32) : Prop := J E mi_X6_speak (tgM E mi_X6_speak (qV Q)) 61 [some (.ref 40), some (.int v1), some (.int v2), some (.int v3), some (.int v4), some (.int v5), none] [] σ
def K_X6_speak_85 (E : EV) (Q : Sg → Prop) (σ : Sg) (v1 : Int32) (v2 : Int32) (v3 : Int32) (v4 : Int32) (v5 : Int32) (v6 : Int32) : Prop := J E mi_X6_speak (tgM E mi_X6_speak (qV Q)) 85 [some (.ref 40), some (.int v1), some (.int v2), some (.int v3), some (.int v4), some (.int v5), some (.int v6)] [] σ
set_option maxRecDepth 100000 in
set_option maxHeartbeats 4000000 in
theorem B_X6_speak_37 {E : EV} {Q : Sg → Prop} {σ : Sg} {v1 : Int32} {v2 : Int32} {v3 : Int32} {v4 : Int32} (h : (((8 : Int32) ≤ v4) → Q σ) ∧ ((¬ (8 : Int32) ≤ v4) → vp_in v2 4 ∧ ((¬ ((gm σ 54) v2.toNatClampNeg) = (-9 : Int32)) → Q σ) ∧ ((((gm σ 54) v2.toNatClampNeg) = (-9 : Int32)) → K_X6_speak_61 E Q σ v1 v2 v3 v4 (v4 + (1 : Int32))))) : K_X6_speak_37 E Q σ v1 v2 v3 v4 :=
 x_iload dX6_speak_37 rfl <|
 x_bipush dX6_speak_39 bp_8 <|
 x_icmp_ge (tgt := 162) dX6_speak_41 (by decide) (fun c1 => x_return rfl dX6_speak_162 ⟨rfl, (h.1 c1)⟩) (fun c1 => x_aload_n dX6_speak_44 rfl <|
 x_getf (v := .ref 54) fl_X6_51 rfl rfl rfl dX6_speak_45 <|
 x_iload_n dX6_speak_48 rfl <|
 x_iaload (v := ((gm σ 54) v2.toNatClampNeg)) rfl (h.2 c1).1 rfl dX6_speak_49 <|
 x_bipush dX6_speak_50 bp_m9 <|
 x_icmp_ne (tgt := 162) dX6_speak_52 (by decide) (fun c2 => x_return rfl dX6_speak_162 ⟨rfl, ((h.2 c1).2.1 c2)⟩) (fun c2 => x_iload dX6_speak_55 rfl <|
 x_iconst dX6_speak_57 ic_1 <|
 x_iadd dX6_speak_58 <|
 x_istore (L2 := [some (.ref 40), some (.int v1), some (.int v2), some (.int v3), some (.int v4), some (.int (v4 + (1 : Int32))), none]) dX6_speak_59 rfl (Nat.le_of_ble_eq_true rfl) <|
 ((h.2 c1).2.2 c2)))
set_option maxRecDepth 100000 in
set_option maxHeartbeats 4000000 in
theorem B_X6_speak_61 {E : EV} {Q : Sg → Prop} {σ : Sg} {v1 : Int32} {v2 : Int32} {v3 : Int32} {v4 : Int32} {v5 : Int32} (h : (((8 : Int32) ≤ v5) → K_X6_speak_37 E Q σ v1 v2 v3 (v4 + 1)) ∧ ((¬ (8 : Int32) ≤ v5) → vp_in v2 4 ∧ ((¬ ((gm σ 54) v2.toNatClampNeg) = (-9 : Int32)) → K_X6_speak_37 E Q σ v1 v2 v3 (v4 + 1)) ∧ ((((gm σ 54) v2.toNatClampNeg) = (-9 : Int32)) → K_X6_speak_85 E Q σ v1 v2 v3 v4 v5 (v5 + (1 : Int32))))) : K_X6_speak_61 E Q σ v1 v2 v3 v4 v5 :=
 x_iload dX6_speak_61 rfl <|
 x_bipush dX6_speak_63 bp_8 <|
 x_icmp_ge (tgt := 156) dX6_speak_65 (by decide) (fun c1 => x_iinc (v := (v4 + 1)) (L2 := [some (.ref 40), some (.int v1), some (.int v2), some (.int v3), some (.int (v4 + 1)), some (.int v5), none]) dX6_speak_156 rfl (by rw [show Int32.ofInt (1) = 1 by decide]) rfl (Nat.le_of_ble_eq_true rfl) <|
 x_goto (tgt := 37) dX6_speak_159 (by decide) <|
 x_sub (L2 := [some (.ref 40), some (.int v1), some (.int v2), some (.int v3), some (.int (v4 + 1)), none, none]) ⟨rfl, rfl, rfl, rfl, rfl, trivial⟩ (h.1 c1)) (fun c1 => x_aload_n dX6_speak_68 rfl <|
 x_getf (v := .ref 54) fl_X6_51 rfl rfl rfl dX6_speak_69 <|
 x_iload_n dX6_speak_72 rfl <|
 x_iaload (v := ((gm σ 54) v2.toNatClampNeg)) rfl (h.2 c1).1 rfl dX6_speak_73 <|
 x_bipush dX6_speak_74 bp_m9 <|
 x_icmp_ne (tgt := 156) dX6_speak_76 (by decide) (fun c2 => x_iinc (v := (v4 + 1)) (L2 := [some (.ref 40), some (.int v1), some (.int v2), some (.int v3), some (.int (v4 + 1)), some (.int v5), none]) dX6_speak_156 rfl (by rw [show Int32.ofInt (1) = 1 by decide]) rfl (Nat.le_of_ble_eq_true rfl) <|
 x_goto (tgt := 37) dX6_speak_159 (by decide) <|
 x_sub (L2 := [some (.ref 40), some (.int v1), some (.int v2), some (.int v3), some (.int (v4 + 1)), none, none]) ⟨rfl, rfl, rfl, rfl, rfl, trivial⟩ ((h.2 c1).2.1 c2)) (fun c2 => x_iload dX6_speak_79 rfl <|
 x_iconst dX6_speak_81 ic_1 <|
 x_iadd dX6_speak_82 <|
 x_istore (L2 := [some (.ref 40), some (.int v1), some (.int v2), some (.int v3), some (.int v4), some (.int v5), some (.int (v5 + (1 : Int32)))]) dX6_speak_83 rfl (Nat.le_of_ble_eq_true rfl) <|
 ((h.2 c1).2.2 c2)))
set_option maxRecDepth 100000 in
set_option maxHeartbeats 4000000 in
theorem B_X6_speak_85 {E : EV} {Q : Sg → Prop} {σ : Sg} {v1 : Int32} {v2 : Int32} {v3 : Int32} {v4 : Int32} {v5 : Int32} {v6 : Int32} (h : (((8 : Int32) ≤ v6) → K_X6_speak_61 E Q σ v1 v2 v3 v4 (v5 + 1)) ∧ ((¬ (8 : Int32) ≤ v6) → vp_in v2 4 ∧ ((¬ ((gm σ 54) v2.toNatClampNeg) = (-9 : Int32)) → K_X6_speak_61 E Q σ v1 v2 v3 v4 (v5 + 1)) ∧ ((((gm σ 54) v2.toNatClampNeg) = (-9 : Int32)) → MetI E mi_X6_areApart [.ref 40, .int v2, .int v4, .int v5, .int v6] σ (fun τ3 r4 => ((r4 = 0) → K_X6_speak_85 E Q τ3 v1 v2 v3 v4 v5 (v6 + 1)) ∧ ((¬ r4 = 0) → K_X6_speak_85 E Q (sm (sm τ3 54 v2.toNatClampNeg v3) 55 v2.toNatClampNeg ((((1 : Int32) <<< (v4 &&& 31)) ||| ((1 : Int32) <<< (v5 &&& 31))) ||| ((1 : Int32) <<< (v6 &&& 31)))) v1 v2 v3 v4 v5 (v6 + 1)))))) : K_X6_speak_85 E Q σ v1 v2 v3 v4 v5 v6 :=
 x_iload dX6_speak_85 rfl <|
 x_bipush dX6_speak_87 bp_8 <|
 x_icmp_ge (tgt := 150) dX6_speak_89 (by decide) (fun c1 => x_iinc (v := (v5 + 1)) (L2 := [some (.ref 40), some (.int v1), some (.int v2), some (.int v3), some (.int v4), some (.int (v5 + 1)), some (.int v6)]) dX6_speak_150 rfl (by rw [show Int32.ofInt (1) = 1 by decide]) rfl (Nat.le_of_ble_eq_true rfl) <|
 x_goto (tgt := 61) dX6_speak_153 (by decide) <|
 x_sub (L2 := [some (.ref 40), some (.int v1), some (.int v2), some (.int v3), some (.int v4), some (.int (v5 + 1)), none]) ⟨rfl, rfl, rfl, rfl, rfl, rfl, trivial⟩ (h.1 c1)) (fun c1 => x_aload_n dX6_speak_92 rfl <|
 x_getf (v := .ref 54) fl_X6_51 rfl rfl rfl dX6_speak_93 <|
 x_iload_n dX6_speak_96 rfl <|
 x_iaload (v := ((gm σ 54) v2.toNatClampNeg)) rfl (h.2 c1).1 rfl dX6_speak_97 <|
 x_bipush dX6_speak_98 bp_m9 <|
 x_icmp_ne (tgt := 150) dX6_speak_100 (by decide) (fun c2 => x_iinc (v := (v5 + 1)) (L2 := [some (.ref 40), some (.int v1), some (.int v2), some (.int v3), some (.int v4), some (.int (v5 + 1)), some (.int v6)]) dX6_speak_150 rfl (by rw [show Int32.ofInt (1) = 1 by decide]) rfl (Nat.le_of_ble_eq_true rfl) <|
 x_goto (tgt := 61) dX6_speak_153 (by decide) <|
 x_sub (L2 := [some (.ref 40), some (.int v1), some (.int v2), some (.int v3), some (.int v4), some (.int (v5 + 1)), none]) ⟨rfl, rfl, rfl, rfl, rfl, rfl, trivial⟩ ((h.2 c1).2.1 c2)) (fun c2 => x_aload_n dX6_speak_103 rfl <|
 x_iload_n dX6_speak_104 rfl <|
 x_iload dX6_speak_105 rfl <|
 x_iload dX6_speak_107 rfl <|
 x_iload dX6_speak_109 rfl <|
 x_callV (b := 40) (As := [.int v2, .int v4, .int v5, .int v6]) ok_X6_areApart ml_X6_130 (okM (by decide)) dX6_speak_111 rfl rfl (Nat.le_of_ble_eq_true rfl) rfl rfl rfl ((h.2 c1).2.2 c2) <|
 (kI (fun τ3 r4 h5 => x_if_eq (tgt := 144) dX6_speak_114 (by decide) (fun c6 => x_iinc (v := (v6 + 1)) (L2 := [some (.ref 40), some (.int v1), some (.int v2), some (.int v3), some (.int v4), some (.int v5), some (.int (v6 + 1))]) dX6_speak_144 rfl (by rw [show Int32.ofInt (1) = 1 by decide]) rfl (Nat.le_of_ble_eq_true rfl) <|
 x_goto (tgt := 85) dX6_speak_147 (by decide) <|
 (h5.1 c6)) (fun c6 => x_aload_n dX6_speak_117 rfl <|
 x_getf (v := .ref 54) fl_X6_51 rfl rfl rfl dX6_speak_118 <|
 x_iload_n dX6_speak_121 rfl <|
 x_iload_n dX6_speak_122 rfl <|
 x_iastore rfl (h.2 c1).1 dX6_speak_123 <|
 x_aload_n dX6_speak_124 rfl <|
 x_getf (v := .ref 55) fl_X6_54 rfl rfl rfl dX6_speak_125 <|
 x_iload_n dX6_speak_128 rfl <|
 x_iconst dX6_speak_129 ic_1 <|
 x_iload dX6_speak_130 rfl <|
 x_ishl dX6_speak_132 <|
 x_iconst dX6_speak_133 ic_1 <|
 x_iload dX6_speak_134 rfl <|
 x_ishl dX6_speak_136 <|
 x_ior dX6_speak_137 <|
 x_iconst dX6_speak_138 ic_1 <|
 x_iload dX6_speak_139 rfl <|
 x_ishl dX6_speak_141 <|
 x_ior dX6_speak_142 <|
 x_iastore rfl (h.2 c1).1 dX6_speak_143 <|
 x_iinc (v := (v6 + 1)) (L2 := [some (.ref 40), some (.int v1), some (.int v2), some (.int v3), some (.int v4), some (.int v5), some (.int (v6 + 1))]) dX6_speak_144 rfl (by rw [show Int32.ofInt (1) = 1 by decide]) rfl (Nat.le_of_ble_eq_true rfl) <|
 x_goto (tgt := 85) dX6_speak_147 (by decide) <|
 (h5.2 c6))))))
set_option maxRecDepth 100000 in
set_option maxHeartbeats 4000000 in
theorem M_X6_speak {E : EV} {Q : Sg → Prop} {σ : Sg} {a1 : Int32} {a2 : Int32} {a3 : Int32} (h : vp_in (((4 : Int32) * a1) + a2) 32 ∧ ((((gm σ 53) (((4 : Int32) * a1) + a2).toNatClampNeg) = 0) → K_X6_speak_37 E Q (sm σ 53 (((4 : Int32) * a1) + a2).toNatClampNeg ((gm σ 52) (((4 : Int32) * a1) + a2).toNatClampNeg)) a1 a2 a3 (0 : Int32)) ∧ ((¬ ((gm σ 53) (((4 : Int32) * a1) + a2).toNatClampNeg) = 0) → Q σ)) : MetV E mi_X6_speak [.ref 40, .int a1, .int a2, .int a3] σ Q :=
 met_of (L := [some (.ref 40), some (.int a1), some (.int a2), some (.int a3), none, none, none]) pn_X6 rfl (Nat.le_of_ble_eq_true rfl) <|
 x_aload_n dX6_speak_0 rfl <|
 x_getf (v := .ref 53) fl_X6_48 rfl rfl rfl dX6_speak_1 <|
 x_iconst dX6_speak_4 ic_4 <|
 x_iload_n dX6_speak_5 rfl <|
 x_imul dX6_speak_6 <|
 x_iload_n dX6_speak_7 rfl <|
 x_iadd dX6_speak_8 <|
 x_iaload (v := ((gm σ 53) (((4 : Int32) * a1) + a2).toNatClampNeg)) rfl h.1 rfl dX6_speak_9 <|
 x_if_eq (tgt := 14) dX6_speak_10 (by decide) (fun c1 => x_aload_n dX6_speak_14 rfl <|
 x_getf (v := .ref 53) fl_X6_48 rfl rfl rfl dX6_speak_15 <|
 x_iconst dX6_speak_18 ic_4 <|
 x_iload_n dX6_speak_19 rfl <|
 x_imul dX6_speak_20 <|
 x_iload_n dX6_speak_21 rfl <|
 x_iadd dX6_speak_22 <|
 x_aload_n dX6_speak_23 rfl <|
 x_getf (v := .ref 52) fl_X6_45 rfl rfl rfl dX6_speak_24 <|
 x_iconst dX6_speak_27 ic_4 <|
 x_iload_n dX6_speak_28 rfl <|
 x_imul dX6_speak_29 <|
 x_iload_n dX6_speak_30 rfl <|
 x_iadd dX6_speak_31 <|
 x_iaload (v := ((gm σ 52) (((4 : Int32) * a1) + a2).toNatClampNeg)) rfl h.1 rfl dX6_speak_32 <|
 x_iastore rfl h.1 dX6_speak_33 <|
 x_iconst dX6_speak_34 ic_0 <|
 x_istore (L2 := [some (.ref 40), some (.int a1), some (.int a2), some (.int a3), some (.int (0 : Int32)), none, none]) dX6_speak_35 rfl (Nat.le_of_ble_eq_true rfl) <|
 (h.2.1 c1)) (fun c1 => x_return rfl dX6_speak_13 ⟨rfl, (h.2.2 c1)⟩)
def K_X6_act_7 (E : EV) (Q : Sg → Prop) (σ : Sg) (v1 : Int32) : Prop := J E mi_X6_act (tgM E mi_X6_act (qV Q)) 7 [some (.ref 40), some (.int v1), none] [] σ
def K_X6_act_53 (E : EV) (Q : Sg → Prop) (σ : Sg) (v1 : Int32) : Prop := J E mi_X6_act (tgM E mi_X6_act (qV Q)) 53 [some (.ref 40), some (.int v1), none] [] σ
set_option maxRecDepth 100000 in
set_option maxHeartbeats 4000000 in
theorem B_X6_act_7 {E : EV} {Q : Sg → Prop} {σ : Sg} {v1 : Int32} (h : (((8 : Int32) ≤ v1) → K_X6_act_53 E Q σ (0 : Int32)) ∧ ((¬ (8 : Int32) ≤ v1) → vp_in (((4 : Int32) * v1) + (gi σ 4025)) 32 ∧ ((((gm σ 52) (((4 : Int32) * v1) + (gi σ 4025)).toNatClampNeg) = 0) → K_X6_act_7 E Q (si σ 4029 ((gi σ 4029) ||| (0 : Int32))) (v1 + 1)) ∧ ((¬ ((gm σ 52) (((4 : Int32) * v1) + (gi σ 4025)).toNatClampNeg) = 0) → K_X6_act_7 E Q (si σ 4029 ((gi σ 4029) ||| ((1 : Int32) <<< (v1 &&& 31)))) (v1 + 1)))) : K_X6_act_7 E Q σ v1 :=
 x_iload_n dX6_act_7 rfl <|
 x_bipush dX6_act_8 bp_8 <|
 x_icmp_ge (tgt := 51) dX6_act_10 (by decide) (fun c1 => x_iconst dX6_act_51 ic_0 <|
 x_istore_n (L2 := [some (.ref 40), some (.int (0 : Int32)), none]) dX6_act_52 rfl (Nat.le_of_ble_eq_true rfl) <|
 (h.1 c1)) (fun c1 => x_aload_n dX6_act_13 rfl <|
 x_dup dX6_act_14 rfl <|
 x_getf (v := .int (gi σ 4029)) fl_X6_134 rfl rfl rfl dX6_act_15 <|
 x_aload_n dX6_act_18 rfl <|
 x_getf (v := .ref 52) fl_X6_45 rfl rfl rfl dX6_act_19 <|
 x_iconst dX6_act_22 ic_4 <|
 x_iload_n dX6_act_23 rfl <|
 x_imul dX6_act_24 <|
 x_aload_n dX6_act_25 rfl <|
 x_getf (v := .int (gi σ 4025)) fl_X6_137 rfl rfl rfl dX6_act_26 <|
 x_iadd dX6_act_29 <|
 x_iaload (v := ((gm σ 52) (((4 : Int32) * v1) + (gi σ 4025)).toNatClampNeg)) rfl (h.2 c1).1 rfl dX6_act_30 <|
 x_if_eq (tgt := 40) dX6_act_31 (by decide) (fun c2 => x_iconst dX6_act_40 ic_0 <|
 x_ior dX6_act_41 <|
 x_puti fp_X6_134 rfl rfl dX6_act_42 <|
 x_iinc (v := (v1 + 1)) (L2 := [some (.ref 40), some (.int (v1 + 1)), none]) dX6_act_45 rfl (by rw [show Int32.ofInt (1) = 1 by decide]) rfl (Nat.le_of_ble_eq_true rfl) <|
 x_goto (tgt := 7) dX6_act_48 (by decide) <|
 ((h.2 c1).2.1 c2)) (fun c2 => x_iconst dX6_act_34 ic_1 <|
 x_iload_n dX6_act_35 rfl <|
 x_ishl dX6_act_36 <|
 x_goto (tgt := 41) dX6_act_37 (by decide) <|
 x_ior dX6_act_41 <|
 x_puti fp_X6_134 rfl rfl dX6_act_42 <|
 x_iinc (v := (v1 + 1)) (L2 := [some (.ref 40), some (.int (v1 + 1)), none]) dX6_act_45 rfl (by rw [show Int32.ofInt (1) = 1 by decide]) rfl (Nat.le_of_ble_eq_true rfl) <|
 x_goto (tgt := 7) dX6_act_48 (by decide) <|
 ((h.2 c1).2.2 c2)))
set_option maxRecDepth 100000 in
set_option maxHeartbeats 4000000 in
theorem B_X6_act_53 {E : EV} {Q : Sg → Prop} {σ : Sg} {v1 : Int32} (h : (((gi σ 4024) ≤ v1) → (((gi σ 4027) = (-9 : Int32)) → Q σ) ∧ ((¬ (gi σ 4027) = (-9 : Int32)) → vp_in (gi σ 4027) 8 ∧ Q (sm σ 51 (gi σ 4027).toNatClampNeg (gi σ 4028)))) ∧ ((¬ (gi σ 4024) ≤ v1) → vp_in v1 8 ∧ ((0 ≤ ((gm σ 56) v1.toNatClampNeg)) → ((((gm σ 56) v1.toNatClampNeg) ≤ 0) → K_X6_act_53 E Q σ (v1 + 1)) ∧ ((¬ ((gm σ 56) v1.toNatClampNeg) ≤ 0) → MetV E mi_X6_think [.ref 40, .int (((gm σ 56) v1.toNatClampNeg) - (1 : Int32)), .int (gi σ 4025)] σ (fun τ5 => MetV E mi_X6_speak [.ref 40, .int (((gm σ 56) v1.toNatClampNeg) - (1 : Int32)), .int (gi τ5 4025), .int (gi τ5 4026)] τ5 (fun τ7 => K_X6_act_53 E Q τ7 (v1 + 1))))) ∧ ((¬ 0 ≤ ((gm σ 56) v1.toNatClampNeg)) → ((((gm σ 56) v1.toNatClampNeg) ≤ 0) → vp_in (((4 : Int32) * ((-((gm σ 56) v1.toNatClampNeg)) - (1 : Int32))) + (gi σ 4025)) 32 ∧ K_X6_act_53 E Q (sm σ 52 (((4 : Int32) * ((-((gm σ 56) v1.toNatClampNeg)) - (1 : Int32))) + (gi σ 4025)).toNatClampNeg (((gm σ 52) (((4 : Int32) * ((-((gm σ 56) v1.toNatClampNeg)) - (1 : Int32))) + (gi σ 4025)).toNatClampNeg) ||| (256 : Int32))) (v1 + 1)) ∧ ((¬ ((gm σ 56) v1.toNatClampNeg) ≤ 0) → MetV E mi_X6_think [.ref 40, .int ((-((gm σ 56) v1.toNatClampNeg)) - (1 : Int32)), .int (gi σ 4025)] σ (fun τ10 => MetV E mi_X6_speak [.ref 40, .int ((-((gm σ 56) v1.toNatClampNeg)) - (1 : Int32)), .int (gi τ10 4025), .int (gi τ10 4026)] τ10 (fun τ12 => K_X6_act_53 E Q τ12 (v1 + 1))))))) : K_X6_act_53 E Q σ v1 :=
 x_iload_n dX6_act_53 rfl <|
 x_aload_n dX6_act_54 rfl <|
 x_getf (v := .int (gi σ 4024)) fl_X6_121 rfl rfl rfl dX6_act_55 <|
 x_icmp_ge (tgt := 157) dX6_act_58 (by decide) (fun c1 => x_aload_n dX6_act_157 rfl <|
 x_getf (v := .int (gi σ 4027)) fl_X6_127 rfl rfl rfl dX6_act_158 <|
 x_bipush dX6_act_161 bp_m9 <|
 x_icmp_eq (tgt := 179) dX6_act_163 (by decide) (fun c2 => x_return rfl dX6_act_179 ⟨rfl, ((h.1 c1).1 c2)⟩) (fun c2 => x_aload_n dX6_act_166 rfl <|
 x_getf (v := .ref 51) fl_X6_42 rfl rfl rfl dX6_act_167 <|
 x_aload_n dX6_act_170 rfl <|
 x_getf (v := .int (gi σ 4027)) fl_X6_127 rfl rfl rfl dX6_act_171 <|
 x_aload_n dX6_act_174 rfl <|
 x_getf (v := .int (gi σ 4028)) fl_X6_147 rfl rfl rfl dX6_act_175 <|
 x_iastore rfl ((h.1 c1).2 c2).1 dX6_act_178 <|
 x_return rfl dX6_act_179 ⟨rfl, ((h.1 c1).2 c2).2⟩)) (fun c1 => x_aload_n dX6_act_61 rfl <|
 x_getf (v := .ref 56) fl_X6_57 rfl rfl rfl dX6_act_62 <|
 x_iload_n dX6_act_65 rfl <|
 x_iaload (v := ((gm σ 56) v1.toNatClampNeg)) rfl (h.2 c1).1 rfl dX6_act_66 <|
 x_if_ge (tgt := 80) dX6_act_67 (by decide) (fun c3 => x_aload_n dX6_act_80 rfl <|
 x_getf (v := .ref 56) fl_X6_57 rfl rfl rfl dX6_act_81 <|
 x_iload_n dX6_act_84 rfl <|
 x_iaload (v := ((gm σ 56) v1.toNatClampNeg)) rfl (h.2 c1).1 rfl dX6_act_85 <|
 x_iconst dX6_act_86 ic_1 <|
 x_isub dX6_act_87 <|
 x_istore_n (L2 := [some (.ref 40), some (.int v1), some (.int (((gm σ 56) v1.toNatClampNeg) - (1 : Int32)))]) dX6_act_88 rfl (Nat.le_of_ble_eq_true rfl) <|
 x_aload_n dX6_act_89 rfl <|
 x_getf (v := .ref 56) fl_X6_57 rfl rfl rfl dX6_act_90 <|
 x_iload_n dX6_act_93 rfl <|
 x_iaload (v := ((gm σ 56) v1.toNatClampNeg)) rfl (h.2 c1).1 rfl dX6_act_94 <|
 x_if_le (tgt := 123) dX6_act_95 (by decide) (fun c4 => x_aload_n dX6_act_123 rfl <|
 x_getf (v := .ref 56) fl_X6_57 rfl rfl rfl dX6_act_124 <|
 x_iload_n dX6_act_127 rfl <|
 x_iaload (v := ((gm σ 56) v1.toNatClampNeg)) rfl (h.2 c1).1 rfl dX6_act_128 <|
 x_if_ge (tgt := 151) dX6_act_129 (by decide) (fun _ => x_iinc (v := (v1 + 1)) (L2 := [some (.ref 40), some (.int (v1 + 1)), some (.int (((gm σ 56) v1.toNatClampNeg) - (1 : Int32)))]) dX6_act_151 rfl (by rw [show Int32.ofInt (1) = 1 by decide]) rfl (Nat.le_of_ble_eq_true rfl) <|
 x_goto (tgt := 53) dX6_act_154 (by decide) <|
 x_sub (L2 := [some (.ref 40), some (.int (v1 + 1)), none]) ⟨rfl, rfl, trivial⟩ (((h.2 c1).2.1 c3).1 c4)) (fun c => absurd c3 c)) (fun c4 => x_aload_n dX6_act_98 rfl <|
 x_iload_n dX6_act_99 rfl <|
 x_aload_n dX6_act_100 rfl <|
 x_getf (v := .int (gi σ 4025)) fl_X6_137 rfl rfl rfl dX6_act_101 <|
 x_callV (b := 40) (As := [.int (((gm σ 56) v1.toNatClampNeg) - (1 : Int32)), .int (gi σ 4025)]) ok_X6_think ml_X6_140 (okM (by decide)) dX6_act_104 rfl rfl (Nat.le_of_ble_eq_true rfl) rfl rfl rfl (((h.2 c1).2.1 c3).2 c4) <|
 (kV (fun τ5 h6 => x_aload_n dX6_act_107 rfl <|
 x_iload_n dX6_act_108 rfl <|
 x_aload_n dX6_act_109 rfl <|
 x_getf (v := .int (gi τ5 4025)) fl_X6_137 rfl rfl rfl dX6_act_110 <|
 x_aload_n dX6_act_113 rfl <|
 x_getf (v := .int (gi τ5 4026)) fl_X6_124 rfl rfl rfl dX6_act_114 <|
 x_callV (b := 40) (As := [.int (((gm σ 56) v1.toNatClampNeg) - (1 : Int32)), .int (gi τ5 4025), .int (gi τ5 4026)]) ok_X6_speak ml_X6_143 (okM (by decide)) dX6_act_117 rfl rfl (Nat.le_of_ble_eq_true rfl) rfl rfl rfl h6 <|
 (kV (fun τ7 h8 => x_goto (tgt := 151) dX6_act_120 (by decide) <|
 x_iinc (v := (v1 + 1)) (L2 := [some (.ref 40), some (.int (v1 + 1)), some (.int (((gm σ 56) v1.toNatClampNeg) - (1 : Int32)))]) dX6_act_151 rfl (by rw [show Int32.ofInt (1) = 1 by decide]) rfl (Nat.le_of_ble_eq_true rfl) <|
 x_goto (tgt := 53) dX6_act_154 (by decide) <|
 x_sub (L2 := [some (.ref 40), some (.int (v1 + 1)), none]) ⟨rfl, rfl, trivial⟩ h8)))))) (fun c3 => x_aload_n dX6_act_70 rfl <|
 x_getf (v := .ref 56) fl_X6_57 rfl rfl rfl dX6_act_71 <|
 x_iload_n dX6_act_74 rfl <|
 x_iaload (v := ((gm σ 56) v1.toNatClampNeg)) rfl (h.2 c1).1 rfl dX6_act_75 <|
 x_ineg dX6_act_76 <|
 x_goto (tgt := 86) dX6_act_77 (by decide) <|
 x_iconst dX6_act_86 ic_1 <|
 x_isub dX6_act_87 <|
 x_istore_n (L2 := [some (.ref 40), some (.int v1), some (.int ((-((gm σ 56) v1.toNatClampNeg)) - (1 : Int32)))]) dX6_act_88 rfl (Nat.le_of_ble_eq_true rfl) <|
 x_aload_n dX6_act_89 rfl <|
 x_getf (v := .ref 56) fl_X6_57 rfl rfl rfl dX6_act_90 <|
 x_iload_n dX6_act_93 rfl <|
 x_iaload (v := ((gm σ 56) v1.toNatClampNeg)) rfl (h.2 c1).1 rfl dX6_act_94 <|
 x_if_le (tgt := 123) dX6_act_95 (by decide) (fun c9 => x_aload_n dX6_act_123 rfl <|
 x_getf (v := .ref 56) fl_X6_57 rfl rfl rfl dX6_act_124 <|
 x_iload_n dX6_act_127 rfl <|
 x_iaload (v := ((gm σ 56) v1.toNatClampNeg)) rfl (h.2 c1).1 rfl dX6_act_128 <|
 x_if_ge (tgt := 151) dX6_act_129 (by decide) (fun c => absurd c c3) (fun _ => x_aload_n dX6_act_132 rfl <|
 x_getf (v := .ref 52) fl_X6_45 rfl rfl rfl dX6_act_133 <|
 x_iconst dX6_act_136 ic_4 <|
 x_iload_n dX6_act_137 rfl <|
 x_imul dX6_act_138 <|
 x_aload_n dX6_act_139 rfl <|
 x_getf (v := .int (gi σ 4025)) fl_X6_137 rfl rfl rfl dX6_act_140 <|
 x_iadd dX6_act_143 <|
 x_dup2 dX6_act_144 rfl rfl <|
 x_iaload (v := ((gm σ 52) (((4 : Int32) * ((-((gm σ 56) v1.toNatClampNeg)) - (1 : Int32))) + (gi σ 4025)).toNatClampNeg)) rfl (((h.2 c1).2.2 c3).1 c9).1 rfl dX6_act_145 <|
 x_sipush dX6_act_146 sp_256 <|
 x_ior dX6_act_149 <|
 x_iastore rfl (((h.2 c1).2.2 c3).1 c9).1 dX6_act_150 <|
 x_iinc (v := (v1 + 1)) (L2 := [some (.ref 40), some (.int (v1 + 1)), some (.int ((-((gm σ 56) v1.toNatClampNeg)) - (1 : Int32)))]) dX6_act_151 rfl (by rw [show Int32.ofInt (1) = 1 by decide]) rfl (Nat.le_of_ble_eq_true rfl) <|
 x_goto (tgt := 53) dX6_act_154 (by decide) <|
 x_sub (L2 := [some (.ref 40), some (.int (v1 + 1)), none]) ⟨rfl, rfl, trivial⟩ (((h.2 c1).2.2 c3).1 c9).2)) (fun c9 => x_aload_n dX6_act_98 rfl <|
 x_iload_n dX6_act_99 rfl <|
 x_aload_n dX6_act_100 rfl <|
 x_getf (v := .int (gi σ 4025)) fl_X6_137 rfl rfl rfl dX6_act_101 <|
 x_callV (b := 40) (As := [.int ((-((gm σ 56) v1.toNatClampNeg)) - (1 : Int32)), .int (gi σ 4025)]) ok_X6_think ml_X6_140 (okM (by decide)) dX6_act_104 rfl rfl (Nat.le_of_ble_eq_true rfl) rfl rfl rfl (((h.2 c1).2.2 c3).2 c9) <|
 (kV (fun τ10 h11 => x_aload_n dX6_act_107 rfl <|
 x_iload_n dX6_act_108 rfl <|
 x_aload_n dX6_act_109 rfl <|
 x_getf (v := .int (gi τ10 4025)) fl_X6_137 rfl rfl rfl dX6_act_110 <|
 x_aload_n dX6_act_113 rfl <|
 x_getf (v := .int (gi τ10 4026)) fl_X6_124 rfl rfl rfl dX6_act_114 <|
 x_callV (b := 40) (As := [.int ((-((gm σ 56) v1.toNatClampNeg)) - (1 : Int32)), .int (gi τ10 4025), .int (gi τ10 4026)]) ok_X6_speak ml_X6_143 (okM (by decide)) dX6_act_117 rfl rfl (Nat.le_of_ble_eq_true rfl) rfl rfl rfl h11 <|
 (kV (fun τ12 h13 => x_goto (tgt := 151) dX6_act_120 (by decide) <|
 x_iinc (v := (v1 + 1)) (L2 := [some (.ref 40), some (.int (v1 + 1)), some (.int ((-((gm σ 56) v1.toNatClampNeg)) - (1 : Int32)))]) dX6_act_151 rfl (by rw [show Int32.ofInt (1) = 1 by decide]) rfl (Nat.le_of_ble_eq_true rfl) <|
 x_goto (tgt := 53) dX6_act_154 (by decide) <|
 x_sub (L2 := [some (.ref 40), some (.int (v1 + 1)), none]) ⟨rfl, rfl, trivial⟩ h13)))))))
set_option maxRecDepth 100000 in
set_option maxHeartbeats 4000000 in
theorem M_X6_act {E : EV} {Q : Sg → Prop} {σ : Sg} (h : K_X6_act_7 E Q (si σ 4029 (0 : Int32)) (0 : Int32)) : MetV E mi_X6_act [.ref 40] σ Q :=
 met_of (L := [some (.ref 40), none, none]) pn_X6 rfl (Nat.le_of_ble_eq_true rfl) <|
 x_aload_n dX6_act_0 rfl <|
 x_iconst dX6_act_1 ic_0 <|
 x_puti fp_X6_134 rfl rfl dX6_act_2 <|
 x_iconst dX6_act_5 ic_0 <|
 x_istore_n (L2 := [some (.ref 40), some (.int (0 : Int32)), none]) dX6_act_6 rfl (Nat.le_of_ble_eq_true rfl) <|
 h
def K_X6_hasAny_4 (E : EV) (Q : Sg → Int32 → Prop) (σ : Sg) (v1 : Int32) (v2 : Int32) (v3 : Int32) : Prop := J E mi_X6_hasAny (tgM E mi_X6_hasAny (qI Q)) 4 [some (.ref 40), some (.int v1), some (.int v2), some (.int v3)] [] σ
set_option maxRecDepth 100000 in
set_option maxHeartbeats 4000000 in
theorem B_X6_hasAny_4 {E : EV} {Q : Sg → Int32 → Prop} {σ : Sg} {v1 : Int32} {v2 : Int32} {v3 : Int32} (h : (((4 : Int32) ≤ v3) → (v2 = 0 ∨ v2 = 1) ∧ Q σ v2) ∧ ((¬ (4 : Int32) ≤ v3) → ((¬ v2 = 0) → K_X6_hasAny_4 E Q σ v1 (1 : Int32) (v3 + 1)) ∧ ((v2 = 0) → vp_in (((4 : Int32) * v1) + v3) 32 ∧ ((((gm σ 52) (((4 : Int32) * v1) + v3).toNatClampNeg) = 0) → K_X6_hasAny_4 E Q σ v1 (0 : Int32) (v3 + 1)) ∧ ((¬ ((gm σ 52) (((4 : Int32) * v1) + v3).toNatClampNeg) = 0) → K_X6_hasAny_4 E Q σ v1 (1 : Int32) (v3 + 1))))) : K_X6_hasAny_4 E Q σ v1 v2 v3 :=
 x_iload_n dX6_hasAny_4 rfl <|
 x_iconst dX6_hasAny_5 ic_4 <|
 x_icmp_ge (tgt := 38) dX6_hasAny_6 (by decide) (fun c1 => x_iload_n dX6_hasAny_38 rfl <|
 x_zreturn rfl (h.1 c1).1 dX6_hasAny_39 ⟨_, rfl, (h.1 c1).2⟩) (fun c1 => x_iload_n dX6_hasAny_9 rfl <|
 x_if_ne (tgt := 26) dX6_hasAny_10 (by decide) (fun c2 => x_iconst dX6_hasAny_26 ic_1 <|
 x_goto (tgt := 31) dX6_hasAny_27 (by decide) <|
 x_istore_n (L2 := [some (.ref 40), some (.int v1), some (.int (1 : Int32)), some (.int v3)]) dX6_hasAny_31 rfl (Nat.le_of_ble_eq_true rfl) <|
 x_iinc (v := (v3 + 1)) (L2 := [some (.ref 40), some (.int v1), some (.int (1 : Int32)), some (.int (v3 + 1))]) dX6_hasAny_32 rfl (by rw [show Int32.ofInt (1) = 1 by decide]) rfl (Nat.le_of_ble_eq_true rfl) <|
 x_goto (tgt := 4) dX6_hasAny_35 (by decide) <|
 ((h.2 c1).1 c2)) (fun c2 => x_aload_n dX6_hasAny_13 rfl <|
 x_getf (v := .ref 52) fl_X6_45 rfl rfl rfl dX6_hasAny_14 <|
 x_iconst dX6_hasAny_17 ic_4 <|
 x_iload_n dX6_hasAny_18 rfl <|
 x_imul dX6_hasAny_19 <|
 x_iload_n dX6_hasAny_20 rfl <|
 x_iadd dX6_hasAny_21 <|
 x_iaload (v := ((gm σ 52) (((4 : Int32) * v1) + v3).toNatClampNeg)) rfl ((h.2 c1).2 c2).1 rfl dX6_hasAny_22 <|
 x_if_eq (tgt := 30) dX6_hasAny_23 (by decide) (fun c3 => x_iconst dX6_hasAny_30 ic_0 <|
 x_istore_n (L2 := [some (.ref 40), some (.int v1), some (.int (0 : Int32)), some (.int v3)]) dX6_hasAny_31 rfl (Nat.le_of_ble_eq_true rfl) <|
 x_iinc (v := (v3 + 1)) (L2 := [some (.ref 40), some (.int v1), some (.int (0 : Int32)), some (.int (v3 + 1))]) dX6_hasAny_32 rfl (by rw [show Int32.ofInt (1) = 1 by decide]) rfl (Nat.le_of_ble_eq_true rfl) <|
 x_goto (tgt := 4) dX6_hasAny_35 (by decide) <|
 (((h.2 c1).2 c2).2.1 c3)) (fun c3 => x_iconst dX6_hasAny_26 ic_1 <|
 x_goto (tgt := 31) dX6_hasAny_27 (by decide) <|
 x_istore_n (L2 := [some (.ref 40), some (.int v1), some (.int (1 : Int32)), some (.int v3)]) dX6_hasAny_31 rfl (Nat.le_of_ble_eq_true rfl) <|
 x_iinc (v := (v3 + 1)) (L2 := [some (.ref 40), some (.int v1), some (.int (1 : Int32)), some (.int (v3 + 1))]) dX6_hasAny_32 rfl (by rw [show Int32.ofInt (1) = 1 by decide]) rfl (Nat.le_of_ble_eq_true rfl) <|
 x_goto (tgt := 4) dX6_hasAny_35 (by decide) <|
 (((h.2 c1).2 c2).2.2 c3))))
set_option maxRecDepth 100000 in
set_option maxHeartbeats 4000000 in
theorem M_X6_hasAny {E : EV} {Q : Sg → Int32 → Prop} {σ : Sg} {a1 : Int32} (h : K_X6_hasAny_4 E Q σ a1 (0 : Int32) (0 : Int32)) : MetI E mi_X6_hasAny [.ref 40, .int a1] σ Q :=
 met_of (L := [some (.ref 40), some (.int a1), none, none]) pn_X6 rfl (Nat.le_of_ble_eq_true rfl) <|
 x_iconst dX6_hasAny_0 ic_0 <|
 x_istore_n (L2 := [some (.ref 40), some (.int a1), some (.int (0 : Int32)), none]) dX6_hasAny_1 rfl (Nat.le_of_ble_eq_true rfl) <|
 x_iconst dX6_hasAny_2 ic_0 <|
 x_istore_n (L2 := [some (.ref 40), some (.int a1), some (.int (0 : Int32)), some (.int (0 : Int32))]) dX6_hasAny_3 rfl (Nat.le_of_ble_eq_true rfl) <|
 h
def K_X6_goEvent_36 (E : EV) (Q : Sg → Prop) (σ : Sg) (v1 : Int32) (v2 : Int32) (v3 : Int32) (v4 : Int32) : Prop := J E mi_X6_goEvent (tgM E mi_X6_goEvent (qV Q)) 36 [some (.ref 40), some (.int v1), some (.int v2), some (.int v3), some (.int v4)] [] σ
def K_X6_goEvent_126 (E : EV) (Q : Sg → Prop) (σ : Sg) (v1 : Int32) (v2 : Int32) (v3 : Int32) (v4 : Int32) : Prop := J E mi_X6_goEvent (tgM E mi_X6_goEvent (qV Q)) 126 [some (.ref 40), some (.int v1), some (.int v2), some (.int v3), some (.int v4)] [] σ
set_option maxRecDepth 100000 in
set_option maxHeartbeats 4000000 in
theorem B_X6_goEvent_36 {E : EV} {Q : Sg → Prop} {σ : Sg} {v1 : Int32} {v2 : Int32} {v3 : Int32} {v4 : Int32} (h : (((4 : Int32) ≤ v4) → Q σ) ∧ ((¬ (4 : Int32) ≤ v4) → vp_in (((4 : Int32) * v3) + v4) 32 ∧ vp_in (((4 : Int32) * v2) + v4) 32 ∧ K_X6_goEvent_36 E Q (sm σ 52 (((4 : Int32) * v3) + v4).toNatClampNeg (((gm σ 52) (((4 : Int32) * v3) + v4).toNatClampNeg) ||| ((gm σ 52) (((4 : Int32) * v2) + v4).toNatClampNeg))) v1 v2 v3 (v4 + 1))) : K_X6_goEvent_36 E Q σ v1 v2 v3 v4 :=
 x_iload dX6_goEvent_36 rfl <|
 x_iconst dX6_goEvent_38 ic_4 <|
 x_icmp_ge (tgt := 73) dX6_goEvent_39 (by decide) (fun c1 => x_goto (tgt := 218) dX6_goEvent_73 (by decide) <|
 x_return rfl dX6_goEvent_218 ⟨rfl, (h.1 c1)⟩) (fun c1 => x_aload_n dX6_goEvent_42 rfl <|
 x_getf (v := .ref 52) fl_X6_45 rfl rfl rfl dX6_goEvent_43 <|
 x_iconst dX6_goEvent_46 ic_4 <|
 x_iload_n dX6_goEvent_47 rfl <|
 x_imul dX6_goEvent_48 <|
 x_iload dX6_goEvent_49 rfl <|
 x_iadd dX6_goEvent_51 <|
 x_dup2 dX6_goEvent_52 rfl rfl <|
 x_iaload (v := ((gm σ 52) (((4 : Int32) * v3) + v4).toNatClampNeg)) rfl (h.2 c1).1 rfl dX6_goEvent_53 <|
 x_aload_n dX6_goEvent_54 rfl <|
 x_getf (v := .ref 52) fl_X6_45 rfl rfl rfl dX6_goEvent_55 <|
 x_iconst dX6_goEvent_58 ic_4 <|
 x_iload_n dX6_goEvent_59 rfl <|
 x_imul dX6_goEvent_60 <|
 x_iload dX6_goEvent_61 rfl <|
 x_iadd dX6_goEvent_63 <|
 x_iaload (v := ((gm σ 52) (((4 : Int32) * v2) + v4).toNatClampNeg)) rfl (h.2 c1).2.1 rfl dX6_goEvent_64 <|
 x_ior dX6_goEvent_65 <|
 x_iastore rfl (h.2 c1).1 dX6_goEvent_66 <|
 x_iinc (v := (v4 + 1)) (L2 := [some (.ref 40), some (.int v1), some (.int v2), some (.int v3), some (.int (v4 + 1))]) dX6_goEvent_67 rfl (by rw [show Int32.ofInt (1) = 1 by decide]) rfl (Nat.le_of_ble_eq_true rfl) <|
 x_goto (tgt := 36) dX6_goEvent_70 (by decide) <|
 (h.2 c1).2.2)
set_option maxRecDepth 100000 in
set_option maxHeartbeats 4000000 in
theorem B_X6_goEvent_126 {E : EV} {Q : Sg → Prop} {σ : Sg} {v1 : Int32} {v2 : Int32} {v3 : Int32} {v4 : Int32} (h : ((((gm σ 42) 0) ≤ v4) → Q σ) ∧ ((¬ ((gm σ 42) 0) ≤ v4) → vp_in (((4 : Int32) * v4) + v3) 32 ∧ vp_in v4 8 ∧ vp_in v2 8 ∧ ((¬ ((gm σ 51) v4.toNatClampNeg) = ((gm σ 51) v2.toNatClampNeg)) → K_X6_goEvent_126 E Q (sm σ 52 (((4 : Int32) * v4) + v3).toNatClampNeg (((gm σ 52) (((4 : Int32) * v4) + v3).toNatClampNeg) ||| (0 : Int32))) v1 v2 v3 (v4 + 1)) ∧ ((((gm σ 51) v4.toNatClampNeg) = ((gm σ 51) v2.toNatClampNeg)) → vp_in (((4 : Int32) * v2) + v3) 32 ∧ K_X6_goEvent_126 E Q (sm σ 52 (((4 : Int32) * v4) + v3).toNatClampNeg (((gm σ 52) (((4 : Int32) * v4) + v3).toNatClampNeg) ||| ((gm σ 52) (((4 : Int32) * v2) + v3).toNatClampNeg))) v1 v2 v3 (v4 + 1)))) : K_X6_goEvent_126 E Q σ v1 v2 v3 v4 :=
 x_iload dX6_goEvent_126 rfl <|
 x_aload_n dX6_goEvent_128 rfl <|
 x_getf (v := .ref 42) fl_X6_13 rfl rfl rfl dX6_goEvent_129 <|
 x_iconst dX6_goEvent_132 ic_0 <|
 x_iaload (v := ((gm σ 42) 0)) rfl (vpd (by decide)) rfl dX6_goEvent_133 <|
 x_icmp_ge (tgt := 187) dX6_goEvent_134 (by decide) (fun c1 => x_goto (tgt := 218) dX6_goEvent_187 (by decide) <|
 x_return rfl dX6_goEvent_218 ⟨rfl, (h.1 c1)⟩) (fun c1 => x_aload_n dX6_goEvent_137 rfl <|
 x_getf (v := .ref 52) fl_X6_45 rfl rfl rfl dX6_goEvent_138 <|
 x_iconst dX6_goEvent_141 ic_4 <|
 x_iload dX6_goEvent_142 rfl <|
 x_imul dX6_goEvent_144 <|
 x_iload_n dX6_goEvent_145 rfl <|
 x_iadd dX6_goEvent_146 <|
 x_dup2 dX6_goEvent_147 rfl rfl <|
 x_iaload (v := ((gm σ 52) (((4 : Int32) * v4) + v3).toNatClampNeg)) rfl (h.2 c1).1 rfl dX6_goEvent_148 <|
 x_aload_n dX6_goEvent_149 rfl <|
 x_getf (v := .ref 51) fl_X6_42 rfl rfl rfl dX6_goEvent_150 <|
 x_iload dX6_goEvent_153 rfl <|
 x_iaload (v := ((gm σ 51) v4.toNatClampNeg)) rfl (h.2 c1).2.1 rfl dX6_goEvent_155 <|
 x_aload_n dX6_goEvent_156 rfl <|
 x_getf (v := .ref 51) fl_X6_42 rfl rfl rfl dX6_goEvent_157 <|
 x_iload_n dX6_goEvent_160 rfl <|
 x_iaload (v := ((gm σ 51) v2.toNatClampNeg)) rfl (h.2 c1).2.2.1 rfl dX6_goEvent_161 <|
 x_icmp_ne (tgt := 178) dX6_goEvent_162 (by decide) (fun c2 => x_iconst dX6_goEvent_178 ic_0 <|
 x_ior dX6_goEvent_179 <|
 x_iastore rfl (h.2 c1).1 dX6_goEvent_180 <|
 x_iinc (v := (v4 + 1)) (L2 := [some (.ref 40), some (.int v1), some (.int v2), some (.int v3), some (.int (v4 + 1))]) dX6_goEvent_181 rfl (by rw [show Int32.ofInt (1) = 1 by decide]) rfl (Nat.le_of_ble_eq_true rfl) <|
 x_goto (tgt := 126) dX6_goEvent_184 (by decide) <|
 ((h.2 c1).2.2.2.1 c2)) (fun c2 => x_aload_n dX6_goEvent_165 rfl <|
 x_getf (v := .ref 52) fl_X6_45 rfl rfl rfl dX6_goEvent_166 <|
 x_iconst dX6_goEvent_169 ic_4 <|
 x_iload_n dX6_goEvent_170 rfl <|
 x_imul dX6_goEvent_171 <|
 x_iload_n dX6_goEvent_172 rfl <|
 x_iadd dX6_goEvent_173 <|
 x_iaload (v := ((gm σ 52) (((4 : Int32) * v2) + v3).toNatClampNeg)) rfl ((h.2 c1).2.2.2.2 c2).1 rfl dX6_goEvent_174 <|
 x_goto (tgt := 179) dX6_goEvent_175 (by decide) <|
 x_ior dX6_goEvent_179 <|
 x_iastore rfl (h.2 c1).1 dX6_goEvent_180 <|
 x_iinc (v := (v4 + 1)) (L2 := [some (.ref 40), some (.int v1), some (.int v2), some (.int v3), some (.int (v4 + 1))]) dX6_goEvent_181 rfl (by rw [show Int32.ofInt (1) = 1 by decide]) rfl (Nat.le_of_ble_eq_true rfl) <|
 x_goto (tgt := 126) dX6_goEvent_184 (by decide) <|
 ((h.2 c1).2.2.2.2 c2).2))
set_option maxRecDepth 100000 in
set_option maxHeartbeats 4000000 in
theorem M_X6_goEvent {E : EV} {Q : Sg → Prop} {σ : Sg} {a1 : Int32} (h : vp_in a1 160 ∧ ((((gm σ 46) a1.toNatClampNeg) = 0) → K_X6_goEvent_36 E Q σ a1 ((gm σ 48) a1.toNatClampNeg) ((gm σ 49) a1.toNatClampNeg) (0 : Int32)) ∧ ((¬ ((gm σ 46) a1.toNatClampNeg) = 0) → ((¬ ((gm σ 46) a1.toNatClampNeg) = (1 : Int32)) → ((¬ ((gm σ 46) a1.toNatClampNeg) = (2 : Int32)) → ((¬ ((gm σ 46) a1.toNatClampNeg) = (3 : Int32)) → ((¬ ((gm σ 48) a1.toNatClampNeg) = (gi σ 4027)) → vp_in ((gm σ 48) a1.toNatClampNeg) 8 ∧ Q (sm σ 51 ((gm σ 48) a1.toNatClampNeg).toNatClampNeg ((gm σ 49) a1.toNatClampNeg))) ∧ ((((gm σ 48) a1.toNatClampNeg) = (gi σ 4027)) → (((gi σ 4026) ≤ ((gm σ 47) a1.toNatClampNeg)) → Q σ) ∧ ((¬ (gi σ 4026) ≤ ((gm σ 47) a1.toNatClampNeg)) → vp_in ((gm σ 48) a1.toNatClampNeg) 8 ∧ Q (sm σ 51 ((gm σ 48) a1.toNatClampNeg).toNatClampNeg ((gm σ 49) a1.toNatClampNeg))))) ∧ ((((gm σ 46) a1.toNatClampNeg) = (3 : Int32)) → MetV E mi_X6_think [.ref 40, .int ((gm σ 48) a1.toNatClampNeg), .int ((gm σ 49) a1.toNatClampNeg)] σ (fun τ7 => MetV E mi_X6_speak [.ref 40, .int ((gm σ 48) a1.toNatClampNeg), .int ((gm σ 49) a1.toNatClampNeg), .int ((gm τ7 47) a1.toNatClampNeg)] τ7 (fun τ9 => K_X6_goEvent_126 E Q τ9 a1 ((gm σ 48) a1.toNatClampNeg) ((gm σ 49) a1.toNatClampNeg) (0 : Int32))))) ∧ ((((gm σ 46) a1.toNatClampNeg) = (2 : Int32)) → MetV E mi_X6_think [.ref 40, .int ((gm σ 48) a1.toNatClampNeg), .int ((gm σ 49) a1.toNatClampNeg)] σ (fun τ11 => Q τ11))) ∧ ((((gm σ 46) a1.toNatClampNeg) = (1 : Int32)) → K_X6_goEvent_36 E Q σ a1 ((gm σ 48) a1.toNatClampNeg) ((gm σ 49) a1.toNatClampNeg) (0 : Int32)))) : MetV E mi_X6_goEvent [.ref 40, .int a1] σ Q :=
 met_of (L := [some (.ref 40), some (.int a1), none, none, none]) pn_X6 rfl (Nat.le_of_ble_eq_true rfl) <|
 x_aload_n dX6_goEvent_0 rfl <|
 x_getf (v := .ref 48) fl_X6_32 rfl rfl rfl dX6_goEvent_1 <|
 x_iload_n dX6_goEvent_4 rfl <|
 x_iaload (v := ((gm σ 48) a1.toNatClampNeg)) rfl h.1 rfl dX6_goEvent_5 <|
 x_istore_n (L2 := [some (.ref 40), some (.int a1), some (.int ((gm σ 48) a1.toNatClampNeg)), none, none]) dX6_goEvent_6 rfl (Nat.le_of_ble_eq_true rfl) <|
 x_aload_n dX6_goEvent_7 rfl <|
 x_getf (v := .ref 49) fl_X6_35 rfl rfl rfl dX6_goEvent_8 <|
 x_iload_n dX6_goEvent_11 rfl <|
 x_iaload (v := ((gm σ 49) a1.toNatClampNeg)) rfl h.1 rfl dX6_goEvent_12 <|
 x_istore_n (L2 := [some (.ref 40), some (.int a1), some (.int ((gm σ 48) a1.toNatClampNeg)), some (.int ((gm σ 49) a1.toNatClampNeg)), none]) dX6_goEvent_13 rfl (Nat.le_of_ble_eq_true rfl) <|
 x_aload_n dX6_goEvent_14 rfl <|
 x_getf (v := .ref 46) fl_X6_26 rfl rfl rfl dX6_goEvent_15 <|
 x_iload_n dX6_goEvent_18 rfl <|
 x_iaload (v := ((gm σ 46) a1.toNatClampNeg)) rfl h.1 rfl dX6_goEvent_19 <|
 x_if_eq (tgt := 33) dX6_goEvent_20 (by decide) (fun c1 => x_iconst dX6_goEvent_33 ic_0 <|
 x_istore (L2 := [some (.ref 40), some (.int a1), some (.int ((gm σ 48) a1.toNatClampNeg)), some (.int ((gm σ 49) a1.toNatClampNeg)), some (.int (0 : Int32))]) dX6_goEvent_34 rfl (Nat.le_of_ble_eq_true rfl) <|
 (h.2.1 c1)) (fun c1 => x_aload_n dX6_goEvent_23 rfl <|
 x_getf (v := .ref 46) fl_X6_26 rfl rfl rfl dX6_goEvent_24 <|
 x_iload_n dX6_goEvent_27 rfl <|
 x_iaload (v := ((gm σ 46) a1.toNatClampNeg)) rfl h.1 rfl dX6_goEvent_28 <|
 x_iconst dX6_goEvent_29 ic_1 <|
 x_icmp_ne (tgt := 76) dX6_goEvent_30 (by decide) (fun c2 => x_aload_n dX6_goEvent_76 rfl <|
 x_getf (v := .ref 46) fl_X6_26 rfl rfl rfl dX6_goEvent_77 <|
 x_iload_n dX6_goEvent_80 rfl <|
 x_iaload (v := ((gm σ 46) a1.toNatClampNeg)) rfl h.1 rfl dX6_goEvent_81 <|
 x_iconst dX6_goEvent_82 ic_2 <|
 x_icmp_ne (tgt := 95) dX6_goEvent_83 (by decide) (fun c3 => x_aload_n dX6_goEvent_95 rfl <|
 x_getf (v := .ref 46) fl_X6_26 rfl rfl rfl dX6_goEvent_96 <|
 x_iload_n dX6_goEvent_99 rfl <|
 x_iaload (v := ((gm σ 46) a1.toNatClampNeg)) rfl h.1 rfl dX6_goEvent_100 <|
 x_iconst dX6_goEvent_101 ic_3 <|
 x_icmp_ne (tgt := 190) dX6_goEvent_102 (by decide) (fun c4 => x_iload_n dX6_goEvent_190 rfl <|
 x_aload_n dX6_goEvent_191 rfl <|
 x_getf (v := .int (gi σ 4027)) fl_X6_127 rfl rfl rfl dX6_goEvent_192 <|
 x_icmp_ne (tgt := 211) dX6_goEvent_195 (by decide) (fun c5 => x_aload_n dX6_goEvent_211 rfl <|
 x_getf (v := .ref 51) fl_X6_42 rfl rfl rfl dX6_goEvent_212 <|
 x_iload_n dX6_goEvent_215 rfl <|
 x_iload_n dX6_goEvent_216 rfl <|
 x_iastore rfl (((((h.2.2 c1).1 c2).1 c3).1 c4).1 c5).1 dX6_goEvent_217 <|
 x_return rfl dX6_goEvent_218 ⟨rfl, (((((h.2.2 c1).1 c2).1 c3).1 c4).1 c5).2⟩) (fun c5 => x_aload_n dX6_goEvent_198 rfl <|
 x_getf (v := .ref 47) fl_X6_29 rfl rfl rfl dX6_goEvent_199 <|
 x_iload_n dX6_goEvent_202 rfl <|
 x_iaload (v := ((gm σ 47) a1.toNatClampNeg)) rfl h.1 rfl dX6_goEvent_203 <|
 x_aload_n dX6_goEvent_204 rfl <|
 x_getf (v := .int (gi σ 4026)) fl_X6_124 rfl rfl rfl dX6_goEvent_205 <|
 x_icmp_ge (tgt := 218) dX6_goEvent_208 (by decide) (fun c6 => x_return rfl dX6_goEvent_218 ⟨rfl, ((((((h.2.2 c1).1 c2).1 c3).1 c4).2 c5).1 c6)⟩) (fun c6 => x_aload_n dX6_goEvent_211 rfl <|
 x_getf (v := .ref 51) fl_X6_42 rfl rfl rfl dX6_goEvent_212 <|
 x_iload_n dX6_goEvent_215 rfl <|
 x_iload_n dX6_goEvent_216 rfl <|
 x_iastore rfl ((((((h.2.2 c1).1 c2).1 c3).1 c4).2 c5).2 c6).1 dX6_goEvent_217 <|
 x_return rfl dX6_goEvent_218 ⟨rfl, ((((((h.2.2 c1).1 c2).1 c3).1 c4).2 c5).2 c6).2⟩))) (fun c4 => x_aload_n dX6_goEvent_105 rfl <|
 x_iload_n dX6_goEvent_106 rfl <|
 x_iload_n dX6_goEvent_107 rfl <|
 x_callV (b := 40) (As := [.int ((gm σ 48) a1.toNatClampNeg), .int ((gm σ 49) a1.toNatClampNeg)]) ok_X6_think ml_X6_140 (okM (by decide)) dX6_goEvent_108 rfl rfl (Nat.le_of_ble_eq_true rfl) rfl rfl rfl ((((h.2.2 c1).1 c2).1 c3).2 c4) <|
 (kV (fun τ7 h8 => x_aload_n dX6_goEvent_111 rfl <|
 x_iload_n dX6_goEvent_112 rfl <|
 x_iload_n dX6_goEvent_113 rfl <|
 x_aload_n dX6_goEvent_114 rfl <|
 x_getf (v := .ref 47) fl_X6_29 rfl rfl rfl dX6_goEvent_115 <|
 x_iload_n dX6_goEvent_118 rfl <|
 x_iaload (v := ((gm τ7 47) a1.toNatClampNeg)) rfl h.1 rfl dX6_goEvent_119 <|
 x_callV (b := 40) (As := [.int ((gm σ 48) a1.toNatClampNeg), .int ((gm σ 49) a1.toNatClampNeg), .int ((gm τ7 47) a1.toNatClampNeg)]) ok_X6_speak ml_X6_143 (okM (by decide)) dX6_goEvent_120 rfl rfl (Nat.le_of_ble_eq_true rfl) rfl rfl rfl h8 <|
 (kV (fun τ9 h10 => x_iconst dX6_goEvent_123 ic_0 <|
 x_istore (L2 := [some (.ref 40), some (.int a1), some (.int ((gm σ 48) a1.toNatClampNeg)), some (.int ((gm σ 49) a1.toNatClampNeg)), some (.int (0 : Int32))]) dX6_goEvent_124 rfl (Nat.le_of_ble_eq_true rfl) <|
 h10)))))) (fun c3 => x_aload_n dX6_goEvent_86 rfl <|
 x_iload_n dX6_goEvent_87 rfl <|
 x_iload_n dX6_goEvent_88 rfl <|
 x_callV (b := 40) (As := [.int ((gm σ 48) a1.toNatClampNeg), .int ((gm σ 49) a1.toNatClampNeg)]) ok_X6_think ml_X6_140 (okM (by decide)) dX6_goEvent_89 rfl rfl (Nat.le_of_ble_eq_true rfl) rfl rfl rfl (((h.2.2 c1).1 c2).2 c3) <|
 (kV (fun τ11 h12 => x_goto (tgt := 218) dX6_goEvent_92 (by decide) <|
 x_return rfl dX6_goEvent_218 ⟨rfl, h12⟩)))) (fun c2 => x_iconst dX6_goEvent_33 ic_0 <|
 x_istore (L2 := [some (.ref 40), some (.int a1), some (.int ((gm σ 48) a1.toNatClampNeg)), some (.int ((gm σ 49) a1.toNatClampNeg)), some (.int (0 : Int32))]) dX6_goEvent_34 rfl (Nat.le_of_ble_eq_true rfl) <|
 ((h.2.2 c1).2 c2)))
def K_X6_go_2 (E : EV) (Q : Sg → Prop) (σ : Sg) (v1 : Int32) (v2 : Int32) : Prop := J E mi_X6_go (tgM E mi_X6_go (qV Q)) 2 [some (.ref 40), some (.int v1), some (.int v2), none, none, none] [] σ
def K_X6_go_28 (E : EV) (Q : Sg → Prop) (σ : Sg) (v1 : Int32) (v2 : Int32) : Prop := J E mi_X6_go (tgM E mi_X6_go (qV Q)) 28 [some (.ref 40), some (.int v1), some (.int v2), none, none, none] [] σ
def K_X6_go_56 (E : EV) (Q : Sg → Prop) (σ : Sg) (v1 : Int32) (v2 : Int32) : Prop := J E mi_X6_go (tgM E mi_X6_go (qV Q)) 56 [some (.ref 40), some (.int v1), some (.int v2), none, none, none] [] σ
def K_X6_go_95 (E : EV) (Q : Sg → Prop) (σ : Sg) (v1 : Int32) (v2 : Int32) (v3 : Int32) (v4 : Int32) : Prop := J E mi_X6_go (tgM E mi_X6_go (qV Q)) 95 [some (.ref 40), some (.int v1), some (.int v2), some (.int v3), some (.int v4), none] [] σ
def K_X6_go_130 (E : EV) (Q : Sg → Prop) (σ : Sg) (v1 : Int32) (v2 : Int32) (v3 : Int32) (v4 : Int32) : Prop := J E mi_X6_go (tgM E mi_X6_go (qV Q)) 130 [some (.ref 40), some (.int v1), some (.int v2), some (.int v3), some (.int v4), none] [] σ
def K_X6_go_198 (E : EV) (Q : Sg → Prop) (σ : Sg) (v1 : Int32) (v2 : Int32) (v3 : Int32) (v4 : Int32) (v5 : Int32) : Prop := J E mi_X6_go (tgM E mi_X6_go (qV Q)) 198 [some (.ref 40), some (.int v1), some (.int v2), some (.int v3), some (.int v4), some (.int v5)] [] σ
def K_X6_go_228 (E : EV) (Q : Sg → Prop) (σ : Sg) (v1 : Int32) (v2 : Int32) (v3 : Int32) (v4 : Int32) (v5 : Int32) : Prop := J E mi_X6_go (tgM E mi_X6_go (qV Q)) 228 [some (.ref 40), some (.int v1), some (.int v2), some (.int v3), some (.int v4), some (.int v5)] [] σ
set_option maxRecDepth 100000 in
set_option maxHeartbeats 4000000 in
theorem B_X6_go_2 {E : EV} {Q : Sg → Prop} {σ : Sg} {v1 : Int32} {v2 : Int32} (h : (((8 : Int32) ≤ v2) → K_X6_go_28 E Q σ v1 (0 : Int32)) ∧ ((¬ (8 : Int32) ≤ v2) → vp_in v2 16 ∧ vp_in v2 8 ∧ K_X6_go_2 E Q (sm σ 51 v2.toNatClampNeg ((gm σ 43) v2.toNatClampNeg)) v1 (v2 + 1))) : K_X6_go_2 E Q σ v1 v2 :=
 x_iload_n dX6_go_2 rfl <|
 x_bipush dX6_go_3 bp_8 <|
 x_icmp_ge (tgt := 26) dX6_go_5 (by decide) (fun c1 => x_iconst dX6_go_26 ic_0 <|
 x_istore_n (L2 := [some (.ref 40), some (.int v1), some (.int (0 : Int32)), none, none, none]) dX6_go_27 rfl (Nat.le_of_ble_eq_true rfl) <|
 (h.1 c1)) (fun c1 => x_aload_n dX6_go_8 rfl <|
 x_getf (v := .ref 51) fl_X6_42 rfl rfl rfl dX6_go_9 <|
 x_iload_n dX6_go_12 rfl <|
 x_aload_n dX6_go_13 rfl <|
 x_getf (v := .ref 43) fl_X6_17 rfl rfl rfl dX6_go_14 <|
 x_iload_n dX6_go_17 rfl <|
 x_iaload (v := ((gm σ 43) v2.toNatClampNeg)) rfl (h.2 c1).1 rfl dX6_go_18 <|
 x_iastore rfl (h.2 c1).2.1 dX6_go_19 <|
 x_iinc (v := (v2 + 1)) (L2 := [some (.ref 40), some (.int v1), some (.int (v2 + 1)), none, none, none]) dX6_go_20 rfl (by rw [show Int32.ofInt (1) = 1 by decide]) rfl (Nat.le_of_ble_eq_true rfl) <|
 x_goto (tgt := 2) dX6_go_23 (by decide) <|
 (h.2 c1).2.2)
set_option maxRecDepth 100000 in
set_option maxHeartbeats 4000000 in
theorem B_X6_go_28 {E : EV} {Q : Sg → Prop} {σ : Sg} {v1 : Int32} {v2 : Int32} (h : (((32 : Int32) ≤ v2) → K_X6_go_56 E Q σ v1 (0 : Int32)) ∧ ((¬ (32 : Int32) ≤ v2) → vp_in v2 32 ∧ K_X6_go_28 E Q (sm (sm σ 52 v2.toNatClampNeg (0 : Int32)) 53 v2.toNatClampNeg (0 : Int32)) v1 (v2 + 1))) : K_X6_go_28 E Q σ v1 v2 :=
 x_iload_n dX6_go_28 rfl <|
 x_bipush dX6_go_29 bp_32 <|
 x_icmp_ge (tgt := 54) dX6_go_31 (by decide) (fun c1 => x_iconst dX6_go_54 ic_0 <|
 x_istore_n (L2 := [some (.ref 40), some (.int v1), some (.int (0 : Int32)), none, none, none]) dX6_go_55 rfl (Nat.le_of_ble_eq_true rfl) <|
 (h.1 c1)) (fun c1 => x_aload_n dX6_go_34 rfl <|
 x_getf (v := .ref 52) fl_X6_45 rfl rfl rfl dX6_go_35 <|
 x_iload_n dX6_go_38 rfl <|
 x_iconst dX6_go_39 ic_0 <|
 x_iastore rfl (h.2 c1).1 dX6_go_40 <|
 x_aload_n dX6_go_41 rfl <|
 x_getf (v := .ref 53) fl_X6_48 rfl rfl rfl dX6_go_42 <|
 x_iload_n dX6_go_45 rfl <|
 x_iconst dX6_go_46 ic_0 <|
 x_iastore rfl (h.2 c1).1 dX6_go_47 <|
 x_iinc (v := (v2 + 1)) (L2 := [some (.ref 40), some (.int v1), some (.int (v2 + 1)), none, none, none]) dX6_go_48 rfl (by rw [show Int32.ofInt (1) = 1 by decide]) rfl (Nat.le_of_ble_eq_true rfl) <|
 x_goto (tgt := 28) dX6_go_51 (by decide) <|
 (h.2 c1).2)
set_option maxRecDepth 100000 in
set_option maxHeartbeats 4000000 in
theorem B_X6_go_56 {E : EV} {Q : Sg → Prop} {σ : Sg} {v1 : Int32} {v2 : Int32} (h : (((4 : Int32) ≤ v2) → K_X6_go_95 E Q (si σ 4022 (0 : Int32)) v1 (0 : Int32) (0 : Int32) (0 : Int32)) ∧ ((¬ (4 : Int32) ≤ v2) → vp_in v2 4 ∧ K_X6_go_56 E Q (sm (sm σ 54 v2.toNatClampNeg (-9 : Int32)) 55 v2.toNatClampNeg (-9 : Int32)) v1 (v2 + 1))) : K_X6_go_56 E Q σ v1 v2 :=
 x_iload_n dX6_go_56 rfl <|
 x_iconst dX6_go_57 ic_4 <|
 x_icmp_ge (tgt := 83) dX6_go_58 (by decide) (fun c1 => x_aload_n dX6_go_83 rfl <|
 x_iconst dX6_go_84 ic_0 <|
 x_puti fp_X6_150 rfl rfl dX6_go_85 <|
 x_iconst dX6_go_88 ic_0 <|
 x_istore_n (L2 := [some (.ref 40), some (.int v1), some (.int (0 : Int32)), none, none, none]) dX6_go_89 rfl (Nat.le_of_ble_eq_true rfl) <|
 x_iconst dX6_go_90 ic_0 <|
 x_istore_n (L2 := [some (.ref 40), some (.int v1), some (.int (0 : Int32)), some (.int (0 : Int32)), none, none]) dX6_go_91 rfl (Nat.le_of_ble_eq_true rfl) <|
 x_iconst dX6_go_92 ic_0 <|
 x_istore (L2 := [some (.ref 40), some (.int v1), some (.int (0 : Int32)), some (.int (0 : Int32)), some (.int (0 : Int32)), none]) dX6_go_93 rfl (Nat.le_of_ble_eq_true rfl) <|
 (h.1 c1)) (fun c1 => x_aload_n dX6_go_61 rfl <|
 x_getf (v := .ref 54) fl_X6_51 rfl rfl rfl dX6_go_62 <|
 x_iload_n dX6_go_65 rfl <|
 x_bipush dX6_go_66 bp_m9 <|
 x_iastore rfl (h.2 c1).1 dX6_go_68 <|
 x_aload_n dX6_go_69 rfl <|
 x_getf (v := .ref 55) fl_X6_54 rfl rfl rfl dX6_go_70 <|
 x_iload_n dX6_go_73 rfl <|
 x_bipush dX6_go_74 bp_m9 <|
 x_iastore rfl (h.2 c1).1 dX6_go_76 <|
 x_iinc (v := (v2 + 1)) (L2 := [some (.ref 40), some (.int v1), some (.int (v2 + 1)), none, none, none]) dX6_go_77 rfl (by rw [show Int32.ofInt (1) = 1 by decide]) rfl (Nat.le_of_ble_eq_true rfl) <|
 x_goto (tgt := 56) dX6_go_80 (by decide) <|
 (h.2 c1).2)
set_option maxRecDepth 100000 in
set_option maxHeartbeats 4000000 in
theorem B_X6_go_95 {E : EV} {Q : Sg → Prop} {σ : Sg} {v1 : Int32} {v2 : Int32} {v3 : Int32} {v4 : Int32} (h : ((((gm σ 44) 0) ≤ v4) → ((¬ v3 = 0) → Q σ) ∧ ((v3 = 0) → (((99 : Int32) < (gi σ 4026)) → Q σ) ∧ ((¬ (99 : Int32) < (gi σ 4026)) → MetV E mi_X6_act [.ref 40] σ (fun τ4 => Q τ4)))) ∧ ((¬ ((gm σ 44) 0) ≤ v4) → ((¬ v3 = 0) → K_X6_go_130 E Q σ v1 v2 v3 v4) ∧ ((v3 = 0) → vp_in v4 160 ∧ ((((gm σ 47) v4.toNatClampNeg) < (gi σ 4026)) → K_X6_go_130 E Q σ v1 v2 v3 v4) ∧ ((¬ ((gm σ 47) v4.toNatClampNeg) < (gi σ 4026)) → MetV E mi_X6_act [.ref 40] σ (fun τ8 => K_X6_go_130 E Q τ8 v1 v2 (1 : Int32) v4))))) : K_X6_go_95 E Q σ v1 v2 v3 v4 :=
 x_iload dX6_go_95 rfl <|
 x_aload_n dX6_go_97 rfl <|
 x_getf (v := .ref 44) fl_X6_20 rfl rfl rfl dX6_go_98 <|
 x_iconst dX6_go_101 ic_0 <|
 x_iaload (v := ((gm σ 44) 0)) rfl (vpd (by decide)) rfl dX6_go_102 <|
 x_icmp_ge (tgt := 234) dX6_go_103 (by decide) (fun c1 => x_iload_n dX6_go_234 rfl <|
 x_if_ne (tgt := 251) dX6_go_235 (by decide) (fun c2 => x_return rfl dX6_go_251 ⟨rfl, ((h.1 c1).1 c2)⟩) (fun c2 => x_aload_n dX6_go_238 rfl <|
 x_getf (v := .int (gi σ 4026)) fl_X6_124 rfl rfl rfl dX6_go_239 <|
 x_bipush dX6_go_242 bp_99 <|
 x_icmp_gt (tgt := 251) dX6_go_244 (by decide) (fun c3 => x_return rfl dX6_go_251 ⟨rfl, (((h.1 c1).2 c2).1 c3)⟩) (fun c3 => x_aload_n dX6_go_247 rfl <|
 x_callV (b := 40) (As := []) ok_X6_act ml_X6_153 (okM (by decide)) dX6_go_248 rfl rfl (Nat.le_of_ble_eq_true rfl) rfl rfl rfl (((h.1 c1).2 c2).2 c3) <|
 (kV (fun τ4 h5 => x_return rfl dX6_go_251 ⟨rfl, h5⟩))))) (fun c1 => x_iload_n dX6_go_106 rfl <|
 x_if_ne (tgt := 130) dX6_go_107 (by decide) (fun c6 => ((h.2 c1).1 c6)) (fun c6 => x_aload_n dX6_go_110 rfl <|
 x_getf (v := .ref 47) fl_X6_29 rfl rfl rfl dX6_go_111 <|
 x_iload dX6_go_114 rfl <|
 x_iaload (v := ((gm σ 47) v4.toNatClampNeg)) rfl ((h.2 c1).2 c6).1 rfl dX6_go_116 <|
 x_aload_n dX6_go_117 rfl <|
 x_getf (v := .int (gi σ 4026)) fl_X6_124 rfl rfl rfl dX6_go_118 <|
 x_icmp_lt (tgt := 130) dX6_go_121 (by decide) (fun c7 => (((h.2 c1).2 c6).2.1 c7)) (fun c7 => x_aload_n dX6_go_124 rfl <|
 x_callV (b := 40) (As := []) ok_X6_act ml_X6_153 (okM (by decide)) dX6_go_125 rfl rfl (Nat.le_of_ble_eq_true rfl) rfl rfl rfl (((h.2 c1).2 c6).2.2 c7) <|
 (kV (fun τ8 h9 => x_iconst dX6_go_128 ic_1 <|
 x_istore_n (L2 := [some (.ref 40), some (.int v1), some (.int v2), some (.int (1 : Int32)), some (.int v4), none]) dX6_go_129 rfl (Nat.le_of_ble_eq_true rfl) <|
 h9)))))
set_option maxRecDepth 100000 in
set_option maxHeartbeats 4000000 in
theorem B_X6_go_130 {E : EV} {Q : Sg → Prop} {σ : Sg} {v1 : Int32} {v2 : Int32} {v3 : Int32} {v4 : Int32} (h : vp_in v4 160 ∧ ((¬ ((gm σ 46) v4.toNatClampNeg) = (1 : Int32)) → K_X6_go_198 E Q (si σ 4022 ((gi σ 4022) ||| (0 : Int32))) v1 v2 v3 v4 (1 : Int32)) ∧ ((((gm σ 46) v4.toNatClampNeg) = (1 : Int32)) → ((¬ ((v1 >>> (v2 &&& 31)) &&& (1 : Int32)) = (1 : Int32)) → MetI E mi_X6_hasAny [.ref 40, .int ((gm σ 48) v4.toNatClampNeg)] σ (fun τ3 r4 => ((¬ r4 = 0) → K_X6_go_198 E Q (si τ3 4022 ((gi σ 4022) ||| (0 : Int32))) v1 v2 v3 v4 (0 : Int32)) ∧ ((r4 = 0) → K_X6_go_198 E Q (si τ3 4022 ((gi σ 4022) ||| ((1 : Int32) <<< (v2 &&& 31)))) v1 v2 v3 v4 (0 : Int32)))) ∧ ((((v1 >>> (v2 &&& 31)) &&& (1 : Int32)) = (1 : Int32)) → MetI E mi_X6_hasAny [.ref 40, .int ((gm σ 48) v4.toNatClampNeg)] σ (fun τ7 r8 => ((¬ r8 = 0) → K_X6_go_198 E Q (si τ7 4022 ((gi σ 4022) ||| (0 : Int32))) v1 v2 v3 v4 (1 : Int32)) ∧ ((r8 = 0) → K_X6_go_198 E Q (si τ7 4022 ((gi σ 4022) ||| ((1 : Int32) <<< (v2 &&& 31)))) v1 v2 v3 v4 (1 : Int32)))))) : K_X6_go_130 E Q σ v1 v2 v3 v4 :=
 x_aload_n dX6_go_130 rfl <|
 x_getf (v := .ref 46) fl_X6_26 rfl rfl rfl dX6_go_131 <|
 x_iload dX6_go_134 rfl <|
 x_iaload (v := ((gm σ 46) v4.toNatClampNeg)) rfl h.1 rfl dX6_go_136 <|
 x_iconst dX6_go_137 ic_1 <|
 x_icmp_ne (tgt := 150) dX6_go_138 (by decide) (fun c1 => x_iconst dX6_go_150 ic_1 <|
 x_goto (tgt := 155) dX6_go_151 (by decide) <|
 x_istore (L2 := [some (.ref 40), some (.int v1), some (.int v2), some (.int v3), some (.int v4), some (.int (1 : Int32))]) dX6_go_155 rfl (Nat.le_of_ble_eq_true rfl) <|
 x_aload_n dX6_go_157 rfl <|
 x_dup dX6_go_158 rfl <|
 x_getf (v := .int (gi σ 4022)) fl_X6_150 rfl rfl rfl dX6_go_159 <|
 x_aload_n dX6_go_162 rfl <|
 x_getf (v := .ref 46) fl_X6_26 rfl rfl rfl dX6_go_163 <|
 x_iload dX6_go_166 rfl <|
 x_iaload (v := ((gm σ 46) v4.toNatClampNeg)) rfl h.1 rfl dX6_go_168 <|
 x_iconst dX6_go_169 ic_1 <|
 x_icmp_ne (tgt := 193) dX6_go_170 (by decide) (fun _ => x_iconst dX6_go_193 ic_0 <|
 x_ior dX6_go_194 <|
 x_puti fp_X6_150 rfl rfl dX6_go_195 <|
 (h.2.1 c1)) (fun c => absurd c c1)) (fun c1 => x_iload_n dX6_go_141 rfl <|
 x_iload_n dX6_go_142 rfl <|
 x_ishr dX6_go_143 <|
 x_iconst dX6_go_144 ic_1 <|
 x_iand dX6_go_145 <|
 x_iconst dX6_go_146 ic_1 <|
 x_icmp_ne (tgt := 154) dX6_go_147 (by decide) (fun c2 => x_iconst dX6_go_154 ic_0 <|
 x_istore (L2 := [some (.ref 40), some (.int v1), some (.int v2), some (.int v3), some (.int v4), some (.int (0 : Int32))]) dX6_go_155 rfl (Nat.le_of_ble_eq_true rfl) <|
 x_aload_n dX6_go_157 rfl <|
 x_dup dX6_go_158 rfl <|
 x_getf (v := .int (gi σ 4022)) fl_X6_150 rfl rfl rfl dX6_go_159 <|
 x_aload_n dX6_go_162 rfl <|
 x_getf (v := .ref 46) fl_X6_26 rfl rfl rfl dX6_go_163 <|
 x_iload dX6_go_166 rfl <|
 x_iaload (v := ((gm σ 46) v4.toNatClampNeg)) rfl h.1 rfl dX6_go_168 <|
 x_iconst dX6_go_169 ic_1 <|
 x_icmp_ne (tgt := 193) dX6_go_170 (by decide) (fun c => absurd c1 c) (fun _ => x_aload_n dX6_go_173 rfl <|
 x_aload_n dX6_go_174 rfl <|
 x_getf (v := .ref 48) fl_X6_32 rfl rfl rfl dX6_go_175 <|
 x_iload dX6_go_178 rfl <|
 x_iaload (v := ((gm σ 48) v4.toNatClampNeg)) rfl h.1 rfl dX6_go_180 <|
 x_callV (b := 40) (As := [.int ((gm σ 48) v4.toNatClampNeg)]) ok_X6_hasAny ml_X6_156 (okM (by decide)) dX6_go_181 rfl rfl (Nat.le_of_ble_eq_true rfl) rfl rfl rfl ((h.2.2 c1).1 c2) <|
 (kI (fun τ3 r4 h5 => x_if_ne (tgt := 193) dX6_go_184 (by decide) (fun c6 => x_iconst dX6_go_193 ic_0 <|
 x_ior dX6_go_194 <|
 x_puti fp_X6_150 rfl rfl dX6_go_195 <|
 (h5.1 c6)) (fun c6 => x_iconst dX6_go_187 ic_1 <|
 x_iload_n dX6_go_188 rfl <|
 x_ishl dX6_go_189 <|
 x_goto (tgt := 194) dX6_go_190 (by decide) <|
 x_ior dX6_go_194 <|
 x_puti fp_X6_150 rfl rfl dX6_go_195 <|
 (h5.2 c6)))))) (fun c2 => x_iconst dX6_go_150 ic_1 <|
 x_goto (tgt := 155) dX6_go_151 (by decide) <|
 x_istore (L2 := [some (.ref 40), some (.int v1), some (.int v2), some (.int v3), some (.int v4), some (.int (1 : Int32))]) dX6_go_155 rfl (Nat.le_of_ble_eq_true rfl) <|
 x_aload_n dX6_go_157 rfl <|
 x_dup dX6_go_158 rfl <|
 x_getf (v := .int (gi σ 4022)) fl_X6_150 rfl rfl rfl dX6_go_159 <|
 x_aload_n dX6_go_162 rfl <|
 x_getf (v := .ref 46) fl_X6_26 rfl rfl rfl dX6_go_163 <|
 x_iload dX6_go_166 rfl <|
 x_iaload (v := ((gm σ 46) v4.toNatClampNeg)) rfl h.1 rfl dX6_go_168 <|
 x_iconst dX6_go_169 ic_1 <|
 x_icmp_ne (tgt := 193) dX6_go_170 (by decide) (fun c => absurd c1 c) (fun _ => x_aload_n dX6_go_173 rfl <|
 x_aload_n dX6_go_174 rfl <|
 x_getf (v := .ref 48) fl_X6_32 rfl rfl rfl dX6_go_175 <|
 x_iload dX6_go_178 rfl <|
 x_iaload (v := ((gm σ 48) v4.toNatClampNeg)) rfl h.1 rfl dX6_go_180 <|
 x_callV (b := 40) (As := [.int ((gm σ 48) v4.toNatClampNeg)]) ok_X6_hasAny ml_X6_156 (okM (by decide)) dX6_go_181 rfl rfl (Nat.le_of_ble_eq_true rfl) rfl rfl rfl ((h.2.2 c1).2 c2) <|
 (kI (fun τ7 r8 h9 => x_if_ne (tgt := 193) dX6_go_184 (by decide) (fun c10 => x_iconst dX6_go_193 ic_0 <|
 x_ior dX6_go_194 <|
 x_puti fp_X6_150 rfl rfl dX6_go_195 <|
 (h9.1 c10)) (fun c10 => x_iconst dX6_go_187 ic_1 <|
 x_iload_n dX6_go_188 rfl <|
 x_ishl dX6_go_189 <|
 x_goto (tgt := 194) dX6_go_190 (by decide) <|
 x_ior dX6_go_194 <|
 x_puti fp_X6_150 rfl rfl dX6_go_195 <|
 (h9.2 c10)))))))
set_option maxRecDepth 100000 in
set_option maxHeartbeats 4000000 in
theorem B_X6_go_198 {E : EV} {Q : Sg → Prop} {σ : Sg} {v1 : Int32} {v2 : Int32} {v3 : Int32} {v4 : Int32} {v5 : Int32} (h : vp_in v4 160 ∧ ((¬ ((gm σ 46) v4.toNatClampNeg) = (1 : Int32)) → ((v5 = 0) → K_X6_go_228 E Q σ v1 (v2 + (0 : Int32)) v3 v4 v5) ∧ ((¬ v5 = 0) → MetV E mi_X6_goEvent [.ref 40, .int v4] σ (fun τ3 => K_X6_go_228 E Q τ3 v1 (v2 + (0 : Int32)) v3 v4 v5))) ∧ ((((gm σ 46) v4.toNatClampNeg) = (1 : Int32)) → ((v5 = 0) → K_X6_go_228 E Q σ v1 (v2 + (1 : Int32)) v3 v4 v5) ∧ ((¬ v5 = 0) → MetV E mi_X6_goEvent [.ref 40, .int v4] σ (fun τ6 => K_X6_go_228 E Q τ6 v1 (v2 + (1 : Int32)) v3 v4 v5)))) : K_X6_go_198 E Q σ v1 v2 v3 v4 v5 :=
 x_iload_n dX6_go_198 rfl <|
 x_aload_n dX6_go_199 rfl <|
 x_getf (v := .ref 46) fl_X6_26 rfl rfl rfl dX6_go_200 <|
 x_iload dX6_go_203 rfl <|
 x_iaload (v := ((gm σ 46) v4.toNatClampNeg)) rfl h.1 rfl dX6_go_205 <|
 x_iconst dX6_go_206 ic_1 <|
 x_icmp_ne (tgt := 214) dX6_go_207 (by decide) (fun c1 => x_iconst dX6_go_214 ic_0 <|
 x_iadd dX6_go_215 <|
 x_istore_n (L2 := [some (.ref 40), some (.int v1), some (.int (v2 + (0 : Int32))), some (.int v3), some (.int v4), some (.int v5)]) dX6_go_216 rfl (Nat.le_of_ble_eq_true rfl) <|
 x_iload dX6_go_217 rfl <|
 x_if_eq (tgt := 228) dX6_go_219 (by decide) (fun c2 => ((h.2.1 c1).1 c2)) (fun c2 => x_aload_n dX6_go_222 rfl <|
 x_iload dX6_go_223 rfl <|
 x_callV (b := 40) (As := [.int v4]) ok_X6_goEvent ml_X6_159 (okM (by decide)) dX6_go_225 rfl rfl (Nat.le_of_ble_eq_true rfl) rfl rfl rfl ((h.2.1 c1).2 c2) <|
 (kV (fun τ3 h4 => h4)))) (fun c1 => x_iconst dX6_go_210 ic_1 <|
 x_goto (tgt := 215) dX6_go_211 (by decide) <|
 x_iadd dX6_go_215 <|
 x_istore_n (L2 := [some (.ref 40), some (.int v1), some (.int (v2 + (1 : Int32))), some (.int v3), some (.int v4), some (.int v5)]) dX6_go_216 rfl (Nat.le_of_ble_eq_true rfl) <|
 x_iload dX6_go_217 rfl <|
 x_if_eq (tgt := 228) dX6_go_219 (by decide) (fun c5 => ((h.2.2 c1).1 c5)) (fun c5 => x_aload_n dX6_go_222 rfl <|
 x_iload dX6_go_223 rfl <|
 x_callV (b := 40) (As := [.int v4]) ok_X6_goEvent ml_X6_159 (okM (by decide)) dX6_go_225 rfl rfl (Nat.le_of_ble_eq_true rfl) rfl rfl rfl ((h.2.2 c1).2 c5) <|
 (kV (fun τ6 h7 => h7))))
set_option maxRecDepth 100000 in
set_option maxHeartbeats 4000000 in
theorem B_X6_go_228 {E : EV} {Q : Sg → Prop} {σ : Sg} {v1 : Int32} {v2 : Int32} {v3 : Int32} {v4 : Int32} {v5 : Int32} (h : K_X6_go_95 E Q σ v1 v2 v3 (v4 + 1)) : K_X6_go_228 E Q σ v1 v2 v3 v4 v5 :=
 x_iinc (v := (v4 + 1)) (L2 := [some (.ref 40), some (.int v1), some (.int v2), some (.int v3), some (.int (v4 + 1)), some (.int v5)]) dX6_go_228 rfl (by rw [show Int32.ofInt (1) = 1 by decide]) rfl (Nat.le_of_ble_eq_true rfl) <|
 x_goto (tgt := 95) dX6_go_231 (by decide) <|
 x_sub (L2 := [some (.ref 40), some (.int v1), some (.int v2), some (.int v3), some (.int (v4 + 1)), none]) ⟨rfl, rfl, rfl, rfl, rfl, trivial⟩ h
set_option maxRecDepth 100000 in
set_option maxHeartbeats 4000000 in
theorem M_X6_go {E : EV} {Q : Sg → Prop} {σ : Sg} {a1 : Int32} (h : K_X6_go_2 E Q σ a1 (0 : Int32)) : MetV E mi_X6_go [.ref 40, .int a1] σ Q :=
 met_of (L := [some (.ref 40), some (.int a1), none, none, none, none]) pn_X6 rfl (Nat.le_of_ble_eq_true rfl) <|
 x_iconst dX6_go_0 ic_0 <|
 x_istore_n (L2 := [some (.ref 40), some (.int a1), some (.int (0 : Int32)), none, none, none]) dX6_go_1 rfl (Nat.le_of_ble_eq_true rfl) <|
 h
set_option maxRecDepth 100000 in
set_option maxHeartbeats 4000000 in
theorem M_X6_goPlain {E : EV} {Q : Sg → Prop} {σ : Sg} {a1 : Int32} (h : MetV E mi_X6_plain [.ref 40] σ (fun τ1 => MetV E mi_X6_go [.ref 40, .int a1] τ1 (fun τ3 => Q τ3))) : MetV E mi_X6_goPlain [.ref 40, .int a1] σ Q :=
 met_of (L := [some (.ref 40), some (.int a1)]) pn_X6 rfl (Nat.le_of_ble_eq_true rfl) <|
 x_aload_n dX6_goPlain_0 rfl <|
 x_callV (b := 40) (As := []) ok_X6_plain ml_X6_163 (okM (by decide)) dX6_goPlain_1 rfl rfl (Nat.le_of_ble_eq_true rfl) rfl rfl rfl h <|
 (kV (fun τ1 h2 => x_aload_n dX6_goPlain_4 rfl <|
 x_iload_n dX6_goPlain_5 rfl <|
 x_callV (b := 40) (As := [.int a1]) ok_X6_go ml_X6_166 (okM (by decide)) dX6_goPlain_6 rfl rfl (Nat.le_of_ble_eq_true rfl) rfl rfl rfl h2 <|
 (kV (fun τ3 h4 => x_return rfl dX6_goPlain_9 ⟨rfl, h4⟩))))
set_option maxRecDepth 100000 in
set_option maxHeartbeats 4000000 in
theorem M_X6_origins {E : EV} {Q : Sg → Int32 → Prop} {σ : Sg} {a1 : Int32} {a2 : Int32} {a3 : Int32} (h : MetI E mi_X6_isOne [.ref 40, .int a1] σ (fun τ1 r2 => ((r2 = 0) → Q τ1 (-1 : Int32)) ∧ ((¬ r2 = 0) → MetI E mi_X6_isThing [.int a2] τ1 (fun τ5 r6 => ((¬ r6 = 0) → MetV E mi_X6_goPlain [.ref 40, .int a3] τ5 (fun τ9 => vp_in (((4 : Int32) * a1) + a2) 32 ∧ Q τ9 ((gm τ9 52) (((4 : Int32) * a1) + a2).toNatClampNeg))) ∧ ((r6 = 0) → Q τ5 (-1 : Int32)))))) : MetI E mi_X6_origins [.ref 40, .int a1, .int a2, .int a3] σ Q :=
 met_of (L := [some (.ref 40), some (.int a1), some (.int a2), some (.int a3)]) pn_X6 rfl (Nat.le_of_ble_eq_true rfl) <|
 x_aload_n dX6_origins_0 rfl <|
 x_iload_n dX6_origins_1 rfl <|
 x_callV (b := 40) (As := [.int a1]) ok_X6_isOne ml_X6_117 (okM (by decide)) dX6_origins_2 rfl rfl (Nat.le_of_ble_eq_true rfl) rfl rfl rfl h <|
 (kI (fun τ1 r2 h3 => x_if_eq (tgt := 15) dX6_origins_5 (by decide) (fun c4 => x_iconst dX6_origins_15 ic_m1 <|
 x_ireturn rfl dX6_origins_16 ⟨_, rfl, (h3.1 c4)⟩) (fun c4 => x_iload_n dX6_origins_8 rfl <|
 x_callS (As := [.int a2]) ok_X6_isThing ml_X6_169 (okM (by decide)) dX6_origins_9 rfl rfl (Nat.le_of_ble_eq_true rfl) (h3.2 c4) <|
 (kI (fun τ5 r6 h7 => x_if_ne (tgt := 17) dX6_origins_12 (by decide) (fun c8 => x_aload_n dX6_origins_17 rfl <|
 x_iload_n dX6_origins_18 rfl <|
 x_callV (b := 40) (As := [.int a3]) ok_X6_goPlain ml_X6_172 (okM (by decide)) dX6_origins_19 rfl rfl (Nat.le_of_ble_eq_true rfl) rfl rfl rfl (h7.1 c8) <|
 (kV (fun τ9 h10 => x_aload_n dX6_origins_22 rfl <|
 x_getf (v := .ref 52) fl_X6_45 rfl rfl rfl dX6_origins_23 <|
 x_iconst dX6_origins_26 ic_4 <|
 x_iload_n dX6_origins_27 rfl <|
 x_imul dX6_origins_28 <|
 x_iload_n dX6_origins_29 rfl <|
 x_iadd dX6_origins_30 <|
 x_iaload (v := ((gm τ9 52) (((4 : Int32) * a1) + a2).toNatClampNeg)) rfl h10.1 rfl dX6_origins_31 <|
 x_ireturn rfl dX6_origins_32 ⟨_, rfl, h10.2⟩))) (fun c8 => x_iconst dX6_origins_15 ic_m1 <|
 x_ireturn rfl dX6_origins_16 ⟨_, rfl, (h7.2 c8)⟩))))))
set_option maxRecDepth 100000 in
set_option maxHeartbeats 4000000 in
theorem M_X6_voice {E : EV} {Q : Sg → Int32 → Prop} {σ : Sg} {a1 : Int32} {a2 : Int32} {a3 : Int32} (h : MetI E mi_X6_isOne [.ref 40, .int a1] σ (fun τ1 r2 => ((r2 = 0) → Q τ1 (-1 : Int32)) ∧ ((¬ r2 = 0) → MetI E mi_X6_isThing [.int a2] τ1 (fun τ5 r6 => ((¬ r6 = 0) → MetV E mi_X6_goPlain [.ref 40, .int a3] τ5 (fun τ9 => vp_in (((4 : Int32) * a1) + a2) 32 ∧ ((¬ ((gm τ9 53) (((4 : Int32) * a1) + a2).toNatClampNeg) = 0) → Q τ9 ((gm τ9 53) (((4 : Int32) * a1) + a2).toNatClampNeg)) ∧ ((((gm τ9 53) (((4 : Int32) * a1) + a2).toNatClampNeg) = 0) → Q τ9 (-9 : Int32)))) ∧ ((r6 = 0) → Q τ5 (-1 : Int32)))))) : MetI E mi_X6_voice [.ref 40, .int a1, .int a2, .int a3] σ Q :=
 met_of (L := [some (.ref 40), some (.int a1), some (.int a2), some (.int a3)]) pn_X6 rfl (Nat.le_of_ble_eq_true rfl) <|
 x_aload_n dX6_voice_0 rfl <|
 x_iload_n dX6_voice_1 rfl <|
 x_callV (b := 40) (As := [.int a1]) ok_X6_isOne ml_X6_117 (okM (by decide)) dX6_voice_2 rfl rfl (Nat.le_of_ble_eq_true rfl) rfl rfl rfl h <|
 (kI (fun τ1 r2 h3 => x_if_eq (tgt := 15) dX6_voice_5 (by decide) (fun c4 => x_iconst dX6_voice_15 ic_m1 <|
 x_ireturn rfl dX6_voice_16 ⟨_, rfl, (h3.1 c4)⟩) (fun c4 => x_iload_n dX6_voice_8 rfl <|
 x_callS (As := [.int a2]) ok_X6_isThing ml_X6_169 (okM (by decide)) dX6_voice_9 rfl rfl (Nat.le_of_ble_eq_true rfl) (h3.2 c4) <|
 (kI (fun τ5 r6 h7 => x_if_ne (tgt := 17) dX6_voice_12 (by decide) (fun c8 => x_aload_n dX6_voice_17 rfl <|
 x_iload_n dX6_voice_18 rfl <|
 x_callV (b := 40) (As := [.int a3]) ok_X6_goPlain ml_X6_172 (okM (by decide)) dX6_voice_19 rfl rfl (Nat.le_of_ble_eq_true rfl) rfl rfl rfl (h7.1 c8) <|
 (kV (fun τ9 h10 => x_aload_n dX6_voice_22 rfl <|
 x_getf (v := .ref 53) fl_X6_48 rfl rfl rfl dX6_voice_23 <|
 x_iconst dX6_voice_26 ic_4 <|
 x_iload_n dX6_voice_27 rfl <|
 x_imul dX6_voice_28 <|
 x_iload_n dX6_voice_29 rfl <|
 x_iadd dX6_voice_30 <|
 x_iaload (v := ((gm τ9 53) (((4 : Int32) * a1) + a2).toNatClampNeg)) rfl h10.1 rfl dX6_voice_31 <|
 x_if_ne (tgt := 40) dX6_voice_32 (by decide) (fun c11 => x_aload_n dX6_voice_40 rfl <|
 x_getf (v := .ref 53) fl_X6_48 rfl rfl rfl dX6_voice_41 <|
 x_iconst dX6_voice_44 ic_4 <|
 x_iload_n dX6_voice_45 rfl <|
 x_imul dX6_voice_46 <|
 x_iload_n dX6_voice_47 rfl <|
 x_iadd dX6_voice_48 <|
 x_iaload (v := ((gm τ9 53) (((4 : Int32) * a1) + a2).toNatClampNeg)) rfl h10.1 rfl dX6_voice_49 <|
 x_ireturn rfl dX6_voice_50 ⟨_, rfl, (h10.2.1 c11)⟩) (fun c11 => x_bipush dX6_voice_35 bp_m9 <|
 x_goto (tgt := 50) dX6_voice_37 (by decide) <|
 x_ireturn rfl dX6_voice_50 ⟨_, rfl, (h10.2.2 c11)⟩)))) (fun c8 => x_iconst dX6_voice_15 ic_m1 <|
 x_ireturn rfl dX6_voice_16 ⟨_, rfl, (h7.2 c8)⟩))))))
set_option maxRecDepth 100000 in
set_option maxHeartbeats 4000000 in
theorem M_X6_law {E : EV} {Q : Sg → Int32 → Prop} {σ : Sg} {a1 : Int32} {a2 : Int32} {a3 : Int32} (h : MetI E mi_X6_isThing [.int a1] σ (fun τ1 r2 => ((r2 = 0) → Q τ1 (-1 : Int32)) ∧ ((¬ r2 = 0) → MetI E mi_X6_in [.int a3, .int (0 : Int32), .int (1 : Int32)] τ1 (fun τ5 r6 => ((¬ r6 = 0) → MetV E mi_X6_goPlain [.ref 40, .int a2] τ5 (fun τ9 => ((¬ a3 = 0) → vp_in a1 4 ∧ Q τ9 ((gm τ9 55) a1.toNatClampNeg)) ∧ ((a3 = 0) → vp_in a1 4 ∧ Q τ9 ((gm τ9 54) a1.toNatClampNeg)))) ∧ ((r6 = 0) → Q τ5 (-1 : Int32)))))) : MetI E mi_X6_law [.ref 40, .int a1, .int a2, .int a3] σ Q :=
 met_of (L := [some (.ref 40), some (.int a1), some (.int a2), some (.int a3)]) pn_X6 rfl (Nat.le_of_ble_eq_true rfl) <|
 x_iload_n dX6_law_0 rfl <|
 x_callS (As := [.int a1]) ok_X6_isThing ml_X6_169 (okM (by decide)) dX6_law_1 rfl rfl (Nat.le_of_ble_eq_true rfl) h <|
 (kI (fun τ1 r2 h3 => x_if_eq (tgt := 16) dX6_law_4 (by decide) (fun c4 => x_iconst dX6_law_16 ic_m1 <|
 x_ireturn rfl dX6_law_17 ⟨_, rfl, (h3.1 c4)⟩) (fun c4 => x_iload_n dX6_law_7 rfl <|
 x_iconst dX6_law_8 ic_0 <|
 x_iconst dX6_law_9 ic_1 <|
 x_callS (As := [.int a3, .int (0 : Int32), .int (1 : Int32)]) ok_X6_in ml_X6_63 (okM (by decide)) dX6_law_10 rfl rfl (Nat.le_of_ble_eq_true rfl) (h3.2 c4) <|
 (kI (fun τ5 r6 h7 => x_if_ne (tgt := 18) dX6_law_13 (by decide) (fun c8 => x_aload_n dX6_law_18 rfl <|
 x_iload_n dX6_law_19 rfl <|
 x_callV (b := 40) (As := [.int a2]) ok_X6_goPlain ml_X6_172 (okM (by decide)) dX6_law_20 rfl rfl (Nat.le_of_ble_eq_true rfl) rfl rfl rfl (h7.1 c8) <|
 (kV (fun τ9 h10 => x_iload_n dX6_law_23 rfl <|
 x_if_ne (tgt := 36) dX6_law_24 (by decide) (fun c11 => x_aload_n dX6_law_36 rfl <|
 x_getf (v := .ref 55) fl_X6_54 rfl rfl rfl dX6_law_37 <|
 x_iload_n dX6_law_40 rfl <|
 x_iaload (v := ((gm τ9 55) a1.toNatClampNeg)) rfl (h10.1 c11).1 rfl dX6_law_41 <|
 x_ireturn rfl dX6_law_42 ⟨_, rfl, (h10.1 c11).2⟩) (fun c11 => x_aload_n dX6_law_27 rfl <|
 x_getf (v := .ref 54) fl_X6_51 rfl rfl rfl dX6_law_28 <|
 x_iload_n dX6_law_31 rfl <|
 x_iaload (v := ((gm τ9 54) a1.toNatClampNeg)) rfl (h10.2 c11).1 rfl dX6_law_32 <|
 x_goto (tgt := 42) dX6_law_33 (by decide) <|
 x_ireturn rfl dX6_law_42 ⟨_, rfl, (h10.2 c11).2⟩)))) (fun c8 => x_iconst dX6_law_16 ic_m1 <|
 x_ireturn rfl dX6_law_17 ⟨_, rfl, (h7.2 c8)⟩))))))
set_option maxRecDepth 100000 in
set_option maxHeartbeats 4000000 in
theorem M_X6_place {E : EV} {Q : Sg → Int32 → Prop} {σ : Sg} {a1 : Int32} (h : MetI E mi_X6_isOne [.ref 40, .int a1] σ (fun τ1 r2 => ((¬ r2 = 0) → MetV E mi_X6_goPlain [.ref 40, .int (0 : Int32)] τ1 (fun τ5 => vp_in a1 8 ∧ Q τ5 ((gm τ5 51) a1.toNatClampNeg))) ∧ ((r2 = 0) → Q τ1 (-1 : Int32)))) : MetI E mi_X6_place [.ref 40, .int a1] σ Q :=
 met_of (L := [some (.ref 40), some (.int a1)]) pn_X6 rfl (Nat.le_of_ble_eq_true rfl) <|
 x_aload_n dX6_place_0 rfl <|
 x_iload_n dX6_place_1 rfl <|
 x_callV (b := 40) (As := [.int a1]) ok_X6_isOne ml_X6_117 (okM (by decide)) dX6_place_2 rfl rfl (Nat.le_of_ble_eq_true rfl) rfl rfl rfl h <|
 (kI (fun τ1 r2 h3 => x_if_ne (tgt := 10) dX6_place_5 (by decide) (fun c4 => x_aload_n dX6_place_10 rfl <|
 x_iconst dX6_place_11 ic_0 <|
 x_callV (b := 40) (As := [.int (0 : Int32)]) ok_X6_goPlain ml_X6_172 (okM (by decide)) dX6_place_12 rfl rfl (Nat.le_of_ble_eq_true rfl) rfl rfl rfl (h3.1 c4) <|
 (kV (fun τ5 h6 => x_aload_n dX6_place_15 rfl <|
 x_getf (v := .ref 51) fl_X6_42 rfl rfl rfl dX6_place_16 <|
 x_iload_n dX6_place_19 rfl <|
 x_iaload (v := ((gm τ5 51) a1.toNatClampNeg)) rfl h6.1 rfl dX6_place_20 <|
 x_ireturn rfl dX6_place_21 ⟨_, rfl, h6.2⟩))) (fun c4 => x_iconst dX6_place_8 ic_m1 <|
 x_ireturn rfl dX6_place_9 ⟨_, rfl, (h3.2 c4)⟩)))
def K_X6_bitsIn_4 (E : EV) (Q : Sg → Int32 → Prop) (σ : Sg) (v0 : Int32) (v1 : Int32) (v2 : Int32) : Prop := J E mi_X6_bitsIn (tgM E mi_X6_bitsIn (qI Q)) 4 [some (.int v0), some (.int v1), some (.int v2)] [] σ
set_option maxRecDepth 100000 in
set_option maxHeartbeats 4000000 in
theorem B_X6_bitsIn_4 {E : EV} {Q : Sg → Int32 → Prop} {σ : Sg} {v0 : Int32} {v1 : Int32} {v2 : Int32} (h : (((8 : Int32) ≤ v2) → Q σ v1) ∧ ((¬ (8 : Int32) ≤ v2) → K_X6_bitsIn_4 E Q σ v0 (v1 + ((v0 >>> (v2 &&& 31)) &&& (1 : Int32))) (v2 + 1))) : K_X6_bitsIn_4 E Q σ v0 v1 v2 :=
 x_iload_n dX6_bitsIn_4 rfl <|
 x_bipush dX6_bitsIn_5 bp_8 <|
 x_icmp_ge (tgt := 24) dX6_bitsIn_7 (by decide) (fun c1 => x_iload_n dX6_bitsIn_24 rfl <|
 x_ireturn rfl dX6_bitsIn_25 ⟨_, rfl, (h.1 c1)⟩) (fun c1 => x_iload_n dX6_bitsIn_10 rfl <|
 x_iload_n dX6_bitsIn_11 rfl <|
 x_iload_n dX6_bitsIn_12 rfl <|
 x_ishr dX6_bitsIn_13 <|
 x_iconst dX6_bitsIn_14 ic_1 <|
 x_iand dX6_bitsIn_15 <|
 x_iadd dX6_bitsIn_16 <|
 x_istore_n (L2 := [some (.int v0), some (.int (v1 + ((v0 >>> (v2 &&& 31)) &&& (1 : Int32)))), some (.int v2)]) dX6_bitsIn_17 rfl (Nat.le_of_ble_eq_true rfl) <|
 x_iinc (v := (v2 + 1)) (L2 := [some (.int v0), some (.int (v1 + ((v0 >>> (v2 &&& 31)) &&& (1 : Int32)))), some (.int (v2 + 1))]) dX6_bitsIn_18 rfl (by rw [show Int32.ofInt (1) = 1 by decide]) rfl (Nat.le_of_ble_eq_true rfl) <|
 x_goto (tgt := 4) dX6_bitsIn_21 (by decide) <|
 (h.2 c1))
set_option maxRecDepth 100000 in
set_option maxHeartbeats 4000000 in
theorem M_X6_bitsIn {E : EV} {Q : Sg → Int32 → Prop} {σ : Sg} {a1 : Int32} (h : K_X6_bitsIn_4 E Q σ a1 (0 : Int32) (0 : Int32)) : MetI E mi_X6_bitsIn [.int a1] σ Q :=
 met_of (L := [some (.int a1), none, none]) pn_X6 rfl (Nat.le_of_ble_eq_true rfl) <|
 x_iconst dX6_bitsIn_0 ic_0 <|
 x_istore_n (L2 := [some (.int a1), some (.int (0 : Int32)), none]) dX6_bitsIn_1 rfl (Nat.le_of_ble_eq_true rfl) <|
 x_iconst dX6_bitsIn_2 ic_0 <|
 x_istore_n (L2 := [some (.int a1), some (.int (0 : Int32)), some (.int (0 : Int32))]) dX6_bitsIn_3 rfl (Nat.le_of_ble_eq_true rfl) <|
 h
set_option maxRecDepth 100000 in
set_option maxHeartbeats 4000000 in
theorem M_X6_isLaw {E : EV} {Q : Sg → Int32 → Prop} {σ : Sg} {a1 : Int32} {a2 : Int32} (h : MetV E mi_X6_goPlain [.ref 40, .int a2] σ (fun τ1 => vp_in a1 4 ∧ ((((gm τ1 54) a1.toNatClampNeg) = (-9 : Int32)) → Q τ1 (0 : Int32)) ∧ ((¬ ((gm τ1 54) a1.toNatClampNeg) = (-9 : Int32)) → Q τ1 (1 : Int32)))) : MetI E mi_X6_isLaw [.ref 40, .int a1, .int a2] σ Q :=
 met_of (L := [some (.ref 40), some (.int a1), some (.int a2)]) pn_X6 rfl (Nat.le_of_ble_eq_true rfl) <|
 x_aload_n dX6_isLaw_0 rfl <|
 x_iload_n dX6_isLaw_1 rfl <|
 x_callV (b := 40) (As := [.int a2]) ok_X6_goPlain ml_X6_172 (okM (by decide)) dX6_isLaw_2 rfl rfl (Nat.le_of_ble_eq_true rfl) rfl rfl rfl h <|
 (kV (fun τ1 h2 => x_aload_n dX6_isLaw_5 rfl <|
 x_getf (v := .ref 54) fl_X6_51 rfl rfl rfl dX6_isLaw_6 <|
 x_iload_n dX6_isLaw_9 rfl <|
 x_iaload (v := ((gm τ1 54) a1.toNatClampNeg)) rfl h2.1 rfl dX6_isLaw_10 <|
 x_bipush dX6_isLaw_11 bp_m9 <|
 x_icmp_eq (tgt := 20) dX6_isLaw_13 (by decide) (fun c3 => x_iconst dX6_isLaw_20 ic_0 <|
 x_zreturn rfl (Or.inl rfl) dX6_isLaw_21 ⟨_, rfl, (h2.2.1 c3)⟩) (fun c3 => x_iconst dX6_isLaw_16 ic_1 <|
 x_goto (tgt := 21) dX6_isLaw_17 (by decide) <|
 x_zreturn rfl (Or.inr rfl) dX6_isLaw_21 ⟨_, rfl, (h2.2.2 c3)⟩)))
def K_X6_fallsBy_5 (E : EV) (Q : Sg → Int32 → Prop) (σ : Sg) (v1 : Int32) (v2 : Int32) (v3 : Int32) : Prop := J E mi_X6_fallsBy (tgM E mi_X6_fallsBy (qI Q)) 5 [some (.ref 40), some (.int v1), some (.int v2), some (.int v3), none] [] σ
set_option maxRecDepth 100000 in
set_option maxHeartbeats 4000000 in
theorem B_X6_fallsBy_5 {E : EV} {Q : Sg → Int32 → Prop} {σ : Sg} {v1 : Int32} {v2 : Int32} {v3 : Int32} (h : MetI E mi_X6_maybesIn [.ref 40, .int (0 : Int32)] σ (fun τ1 r2 => ((((1 : Int32) <<< (r2 &&& 31)) ≤ v3) → Q τ1 v2) ∧ ((¬ ((1 : Int32) <<< (r2 &&& 31)) ≤ v3) → ((v2 = (-9 : Int32)) → MetI E mi_X6_isLaw [.ref 40, .int v1, .int v3] τ1 (fun τ6 r7 => ((¬ r7 = 0) → K_X6_fallsBy_5 E Q τ6 v1 v2 (v3 + 1)) ∧ ((r7 = 0) → K_X6_fallsBy_5 E Q τ6 v1 v3 (v3 + 1)))) ∧ ((¬ v2 = (-9 : Int32)) → MetI E mi_X6_bitsIn [.int v3] τ1 (fun τ10 r11 => MetI E mi_X6_bitsIn [.int v2] τ10 (fun τ13 r14 => ((r14 ≤ r11) → K_X6_fallsBy_5 E Q τ13 v1 v2 (v3 + 1)) ∧ ((¬ r14 ≤ r11) → MetI E mi_X6_isLaw [.ref 40, .int v1, .int v3] τ13 (fun τ17 r18 => ((¬ r18 = 0) → K_X6_fallsBy_5 E Q τ17 v1 v2 (v3 + 1)) ∧ ((r18 = 0) → K_X6_fallsBy_5 E Q τ17 v1 v3 (v3 + 1)))))))))) : K_X6_fallsBy_5 E Q σ v1 v2 v3 :=
 x_iload_n dX6_fallsBy_5 rfl <|
 x_iconst dX6_fallsBy_6 ic_1 <|
 x_aload_n dX6_fallsBy_7 rfl <|
 x_iconst dX6_fallsBy_8 ic_0 <|
 x_callV (b := 40) (As := [.int (0 : Int32)]) ok_X6_maybesIn ml_X6_103 (okM (by decide)) dX6_fallsBy_9 rfl rfl (Nat.le_of_ble_eq_true rfl) rfl rfl rfl h <|
 (kI (fun τ1 r2 h3 => x_ishl dX6_fallsBy_12 <|
 x_icmp_ge (tgt := 66) dX6_fallsBy_13 (by decide) (fun c4 => x_iload_n dX6_fallsBy_66 rfl <|
 x_ireturn rfl dX6_fallsBy_67 ⟨_, rfl, (h3.1 c4)⟩) (fun c4 => x_iload_n dX6_fallsBy_16 rfl <|
 x_bipush dX6_fallsBy_17 bp_m9 <|
 x_icmp_eq (tgt := 33) dX6_fallsBy_19 (by decide) (fun c5 => x_iconst dX6_fallsBy_33 ic_1 <|
 x_goto (tgt := 38) dX6_fallsBy_34 (by decide) <|
 x_istore (L2 := [some (.ref 40), some (.int v1), some (.int v2), some (.int v3), some (.int (1 : Int32))]) dX6_fallsBy_38 rfl (Nat.le_of_ble_eq_true rfl) <|
 x_iload dX6_fallsBy_40 rfl <|
 x_if_eq (tgt := 58) dX6_fallsBy_42 (by decide) (fun c => absurd c (by decide)) (fun _ => x_aload_n dX6_fallsBy_45 rfl <|
 x_iload_n dX6_fallsBy_46 rfl <|
 x_iload_n dX6_fallsBy_47 rfl <|
 x_callV (b := 40) (As := [.int v1, .int v3]) ok_X6_isLaw ml_X6_178 (okM (by decide)) dX6_fallsBy_48 rfl rfl (Nat.le_of_ble_eq_true rfl) rfl rfl rfl ((h3.2 c4).1 c5) <|
 (kI (fun τ6 r7 h8 => x_if_ne (tgt := 58) dX6_fallsBy_51 (by decide) (fun c9 => x_iload_n dX6_fallsBy_58 rfl <|
 x_istore_n (L2 := [some (.ref 40), some (.int v1), some (.int v2), some (.int v3), some (.int (1 : Int32))]) dX6_fallsBy_59 rfl (Nat.le_of_ble_eq_true rfl) <|
 x_iinc (v := (v3 + 1)) (L2 := [some (.ref 40), some (.int v1), some (.int v2), some (.int (v3 + 1)), some (.int (1 : Int32))]) dX6_fallsBy_60 rfl (by rw [show Int32.ofInt (1) = 1 by decide]) rfl (Nat.le_of_ble_eq_true rfl) <|
 x_goto (tgt := 5) dX6_fallsBy_63 (by decide) <|
 x_sub (L2 := [some (.ref 40), some (.int v1), some (.int v2), some (.int (v3 + 1)), none]) ⟨rfl, rfl, rfl, rfl, trivial⟩ (h8.1 c9)) (fun c9 => x_iload_n dX6_fallsBy_54 rfl <|
 x_goto (tgt := 59) dX6_fallsBy_55 (by decide) <|
 x_istore_n (L2 := [some (.ref 40), some (.int v1), some (.int v3), some (.int v3), some (.int (1 : Int32))]) dX6_fallsBy_59 rfl (Nat.le_of_ble_eq_true rfl) <|
 x_iinc (v := (v3 + 1)) (L2 := [some (.ref 40), some (.int v1), some (.int v3), some (.int (v3 + 1)), some (.int (1 : Int32))]) dX6_fallsBy_60 rfl (by rw [show Int32.ofInt (1) = 1 by decide]) rfl (Nat.le_of_ble_eq_true rfl) <|
 x_goto (tgt := 5) dX6_fallsBy_63 (by decide) <|
 x_sub (L2 := [some (.ref 40), some (.int v1), some (.int v3), some (.int (v3 + 1)), none]) ⟨rfl, rfl, rfl, rfl, trivial⟩ (h8.2 c9)))))) (fun c5 => x_iload_n dX6_fallsBy_22 rfl <|
 x_callS (As := [.int v3]) ok_X6_bitsIn ml_X6_175 (okM (by decide)) dX6_fallsBy_23 rfl rfl (Nat.le_of_ble_eq_true rfl) ((h3.2 c4).2 c5) <|
 (kI (fun τ10 r11 h12 => x_iload_n dX6_fallsBy_26 rfl <|
 x_callS (As := [.int v2]) ok_X6_bitsIn ml_X6_175 (okM (by decide)) dX6_fallsBy_27 rfl rfl (Nat.le_of_ble_eq_true rfl) h12 <|
 (kI (fun τ13 r14 h15 => x_icmp_ge (tgt := 37) dX6_fallsBy_30 (by decide) (fun c16 => x_iconst dX6_fallsBy_37 ic_0 <|
 x_istore (L2 := [some (.ref 40), some (.int v1), some (.int v2), some (.int v3), some (.int (0 : Int32))]) dX6_fallsBy_38 rfl (Nat.le_of_ble_eq_true rfl) <|
 x_iload dX6_fallsBy_40 rfl <|
 x_if_eq (tgt := 58) dX6_fallsBy_42 (by decide) (fun _ => x_iload_n dX6_fallsBy_58 rfl <|
 x_istore_n (L2 := [some (.ref 40), some (.int v1), some (.int v2), some (.int v3), some (.int (0 : Int32))]) dX6_fallsBy_59 rfl (Nat.le_of_ble_eq_true rfl) <|
 x_iinc (v := (v3 + 1)) (L2 := [some (.ref 40), some (.int v1), some (.int v2), some (.int (v3 + 1)), some (.int (0 : Int32))]) dX6_fallsBy_60 rfl (by rw [show Int32.ofInt (1) = 1 by decide]) rfl (Nat.le_of_ble_eq_true rfl) <|
 x_goto (tgt := 5) dX6_fallsBy_63 (by decide) <|
 x_sub (L2 := [some (.ref 40), some (.int v1), some (.int v2), some (.int (v3 + 1)), none]) ⟨rfl, rfl, rfl, rfl, trivial⟩ (h15.1 c16)) (fun c => absurd c (by decide))) (fun c16 => x_iconst dX6_fallsBy_33 ic_1 <|
 x_goto (tgt := 38) dX6_fallsBy_34 (by decide) <|
 x_istore (L2 := [some (.ref 40), some (.int v1), some (.int v2), some (.int v3), some (.int (1 : Int32))]) dX6_fallsBy_38 rfl (Nat.le_of_ble_eq_true rfl) <|
 x_iload dX6_fallsBy_40 rfl <|
 x_if_eq (tgt := 58) dX6_fallsBy_42 (by decide) (fun c => absurd c (by decide)) (fun _ => x_aload_n dX6_fallsBy_45 rfl <|
 x_iload_n dX6_fallsBy_46 rfl <|
 x_iload_n dX6_fallsBy_47 rfl <|
 x_callV (b := 40) (As := [.int v1, .int v3]) ok_X6_isLaw ml_X6_178 (okM (by decide)) dX6_fallsBy_48 rfl rfl (Nat.le_of_ble_eq_true rfl) rfl rfl rfl (h15.2 c16) <|
 (kI (fun τ17 r18 h19 => x_if_ne (tgt := 58) dX6_fallsBy_51 (by decide) (fun c20 => x_iload_n dX6_fallsBy_58 rfl <|
 x_istore_n (L2 := [some (.ref 40), some (.int v1), some (.int v2), some (.int v3), some (.int (1 : Int32))]) dX6_fallsBy_59 rfl (Nat.le_of_ble_eq_true rfl) <|
 x_iinc (v := (v3 + 1)) (L2 := [some (.ref 40), some (.int v1), some (.int v2), some (.int (v3 + 1)), some (.int (1 : Int32))]) dX6_fallsBy_60 rfl (by rw [show Int32.ofInt (1) = 1 by decide]) rfl (Nat.le_of_ble_eq_true rfl) <|
 x_goto (tgt := 5) dX6_fallsBy_63 (by decide) <|
 x_sub (L2 := [some (.ref 40), some (.int v1), some (.int v2), some (.int (v3 + 1)), none]) ⟨rfl, rfl, rfl, rfl, trivial⟩ (h19.1 c20)) (fun c20 => x_iload_n dX6_fallsBy_54 rfl <|
 x_goto (tgt := 59) dX6_fallsBy_55 (by decide) <|
 x_istore_n (L2 := [some (.ref 40), some (.int v1), some (.int v3), some (.int v3), some (.int (1 : Int32))]) dX6_fallsBy_59 rfl (Nat.le_of_ble_eq_true rfl) <|
 x_iinc (v := (v3 + 1)) (L2 := [some (.ref 40), some (.int v1), some (.int v3), some (.int (v3 + 1)), some (.int (1 : Int32))]) dX6_fallsBy_60 rfl (by rw [show Int32.ofInt (1) = 1 by decide]) rfl (Nat.le_of_ble_eq_true rfl) <|
 x_goto (tgt := 5) dX6_fallsBy_63 (by decide) <|
 x_sub (L2 := [some (.ref 40), some (.int v1), some (.int v3), some (.int (v3 + 1)), none]) ⟨rfl, rfl, rfl, rfl, trivial⟩ (h19.2 c20))))))))))))))
set_option maxRecDepth 100000 in
set_option maxHeartbeats 4000000 in
theorem M_X6_fallsBy {E : EV} {Q : Sg → Int32 → Prop} {σ : Sg} {a1 : Int32} (h : K_X6_fallsBy_5 E Q σ a1 (-9 : Int32) (0 : Int32)) : MetI E mi_X6_fallsBy [.ref 40, .int a1] σ Q :=
 met_of (L := [some (.ref 40), some (.int a1), none, none, none]) pn_X6 rfl (Nat.le_of_ble_eq_true rfl) <|
 x_bipush dX6_fallsBy_0 bp_m9 <|
 x_istore_n (L2 := [some (.ref 40), some (.int a1), some (.int (-9 : Int32)), none, none]) dX6_fallsBy_2 rfl (Nat.le_of_ble_eq_true rfl) <|
 x_iconst dX6_fallsBy_3 ic_0 <|
 x_istore_n (L2 := [some (.ref 40), some (.int a1), some (.int (-9 : Int32)), some (.int (0 : Int32)), none]) dX6_fallsBy_4 rfl (Nat.le_of_ble_eq_true rfl) <|
 h
set_option maxRecDepth 100000 in
set_option maxHeartbeats 4000000 in
theorem M_X6_stands {E : EV} {Q : Sg → Int32 → Prop} {σ : Sg} {a1 : Int32} (h : MetI E mi_X6_isThing [.int a1] σ (fun τ1 r2 => ((r2 = 0) → Q τ1 (-1 : Int32)) ∧ ((¬ r2 = 0) → MetI E mi_X6_fallsBy [.ref 40, .int a1] τ1 (fun τ5 r6 => ((¬ r6 = (-9 : Int32)) → Q τ5 (0 : Int32)) ∧ ((r6 = (-9 : Int32)) → Q τ5 (1 : Int32)))))) : MetI E mi_X6_stands [.ref 40, .int a1] σ Q :=
 met_of (L := [some (.ref 40), some (.int a1)]) pn_X6 rfl (Nat.le_of_ble_eq_true rfl) <|
 x_iload_n dX6_stands_0 rfl <|
 x_callS (As := [.int a1]) ok_X6_isThing ml_X6_169 (okM (by decide)) dX6_stands_1 rfl rfl (Nat.le_of_ble_eq_true rfl) h <|
 (kI (fun τ1 r2 h3 => x_if_eq (tgt := 25) dX6_stands_4 (by decide) (fun c4 => x_iconst dX6_stands_25 ic_m1 <|
 x_ireturn rfl dX6_stands_26 ⟨_, rfl, (h3.1 c4)⟩) (fun c4 => x_aload_n dX6_stands_7 rfl <|
 x_iload_n dX6_stands_8 rfl <|
 x_callV (b := 40) (As := [.int a1]) ok_X6_fallsBy ml_X6_182 (okM (by decide)) dX6_stands_9 rfl rfl (Nat.le_of_ble_eq_true rfl) rfl rfl rfl (h3.2 c4) <|
 (kI (fun τ5 r6 h7 => x_bipush dX6_stands_12 bp_m9 <|
 x_icmp_ne (tgt := 21) dX6_stands_14 (by decide) (fun c8 => x_iconst dX6_stands_21 ic_0 <|
 x_goto (tgt := 26) dX6_stands_22 (by decide) <|
 x_ireturn rfl dX6_stands_26 ⟨_, rfl, (h7.1 c8)⟩) (fun c8 => x_iconst dX6_stands_17 ic_1 <|
 x_goto (tgt := 26) dX6_stands_18 (by decide) <|
 x_ireturn rfl dX6_stands_26 ⟨_, rfl, (h7.2 c8)⟩))))))
set_option maxRecDepth 100000 in
set_option maxHeartbeats 4000000 in
theorem M_X6_falls {E : EV} {Q : Sg → Int32 → Prop} {σ : Sg} {a1 : Int32} (h : MetI E mi_X6_isThing [.int a1] σ (fun τ1 r2 => ((r2 = 0) → Q τ1 (-1 : Int32)) ∧ ((¬ r2 = 0) → MetI E mi_X6_fallsBy [.ref 40, .int a1] τ1 (fun τ5 r6 => Q τ5 r6)))) : MetI E mi_X6_falls [.ref 40, .int a1] σ Q :=
 met_of (L := [some (.ref 40), some (.int a1)]) pn_X6 rfl (Nat.le_of_ble_eq_true rfl) <|
 x_iload_n dX6_falls_0 rfl <|
 x_callS (As := [.int a1]) ok_X6_isThing ml_X6_169 (okM (by decide)) dX6_falls_1 rfl rfl (Nat.le_of_ble_eq_true rfl) h <|
 (kI (fun τ1 r2 h3 => x_if_eq (tgt := 15) dX6_falls_4 (by decide) (fun c4 => x_iconst dX6_falls_15 ic_m1 <|
 x_ireturn rfl dX6_falls_16 ⟨_, rfl, (h3.1 c4)⟩) (fun c4 => x_aload_n dX6_falls_7 rfl <|
 x_iload_n dX6_falls_8 rfl <|
 x_callV (b := 40) (As := [.int a1]) ok_X6_fallsBy ml_X6_182 (okM (by decide)) dX6_falls_9 rfl rfl (Nat.le_of_ble_eq_true rfl) rfl rfl rfl (h3.2 c4) <|
 (kI (fun τ5 r6 h7 => x_goto (tgt := 16) dX6_falls_12 (by decide) <|
 x_ireturn rfl dX6_falls_16 ⟨_, rfl, h7⟩)))))
def K_X6_alone_13 (E : EV) (Q : Sg → Int32 → Prop) (σ : Sg) (v1 : Int32) (v2 : Int32) (v3 : Int32) : Prop := J E mi_X6_alone (tgM E mi_X6_alone (qI Q)) 13 [some (.ref 40), some (.int v1), some (.int v2), some (.int v3)] [] σ
set_option maxRecDepth 100000 in
set_option maxHeartbeats 4000000 in
theorem B_X6_alone_13 {E : EV} {Q : Sg → Int32 → Prop} {σ : Sg} {v1 : Int32} {v2 : Int32} {v3 : Int32} (h : MetI E mi_X6_maybesIn [.ref 40, .int (0 : Int32)] σ (fun τ1 r2 => ((r2 ≤ v3) → Q τ1 v2) ∧ ((¬ r2 ≤ v3) → MetI E mi_X6_isLaw [.ref 40, .int v1, .int (0 : Int32)] τ1 (fun τ5 r6 => ((r6 = 0) → Q τ5 v2) ∧ ((¬ r6 = 0) → MetI E mi_X6_isLaw [.ref 40, .int v1, .int ((1 : Int32) <<< (v3 &&& 31))] τ5 (fun τ9 r10 => ((r10 = 0) → K_X6_alone_13 E Q τ9 v1 (v2 ||| ((1 : Int32) <<< (v3 &&& 31))) (v3 + 1)) ∧ ((¬ r10 = 0) → K_X6_alone_13 E Q τ9 v1 (v2 ||| (0 : Int32)) (v3 + 1)))))))) : K_X6_alone_13 E Q σ v1 v2 v3 :=
 x_iload_n dX6_alone_13 rfl <|
 x_aload_n dX6_alone_14 rfl <|
 x_iconst dX6_alone_15 ic_0 <|
 x_callV (b := 40) (As := [.int (0 : Int32)]) ok_X6_maybesIn ml_X6_103 (okM (by decide)) dX6_alone_16 rfl rfl (Nat.le_of_ble_eq_true rfl) rfl rfl rfl h <|
 (kI (fun τ1 r2 h3 => x_icmp_ge (tgt := 58) dX6_alone_19 (by decide) (fun c4 => x_iload_n dX6_alone_58 rfl <|
 x_ireturn rfl dX6_alone_59 ⟨_, rfl, (h3.1 c4)⟩) (fun c4 => x_aload_n dX6_alone_22 rfl <|
 x_iload_n dX6_alone_23 rfl <|
 x_iconst dX6_alone_24 ic_0 <|
 x_callV (b := 40) (As := [.int v1, .int (0 : Int32)]) ok_X6_isLaw ml_X6_178 (okM (by decide)) dX6_alone_25 rfl rfl (Nat.le_of_ble_eq_true rfl) rfl rfl rfl (h3.2 c4) <|
 (kI (fun τ5 r6 h7 => x_if_eq (tgt := 58) dX6_alone_28 (by decide) (fun c8 => x_iload_n dX6_alone_58 rfl <|
 x_ireturn rfl dX6_alone_59 ⟨_, rfl, (h7.1 c8)⟩) (fun c8 => x_iload_n dX6_alone_31 rfl <|
 x_aload_n dX6_alone_32 rfl <|
 x_iload_n dX6_alone_33 rfl <|
 x_iconst dX6_alone_34 ic_1 <|
 x_iload_n dX6_alone_35 rfl <|
 x_ishl dX6_alone_36 <|
 x_callV (b := 40) (As := [.int v1, .int ((1 : Int32) <<< (v3 &&& 31))]) ok_X6_isLaw ml_X6_178 (okM (by decide)) dX6_alone_37 rfl rfl (Nat.le_of_ble_eq_true rfl) rfl rfl rfl (h7.2 c8) <|
 (kI (fun τ9 r10 h11 => x_if_eq (tgt := 47) dX6_alone_40 (by decide) (fun c12 => x_iconst dX6_alone_47 ic_1 <|
 x_iload_n dX6_alone_48 rfl <|
 x_ishl dX6_alone_49 <|
 x_ior dX6_alone_50 <|
 x_istore_n (L2 := [some (.ref 40), some (.int v1), some (.int (v2 ||| ((1 : Int32) <<< (v3 &&& 31)))), some (.int v3)]) dX6_alone_51 rfl (Nat.le_of_ble_eq_true rfl) <|
 x_iinc (v := (v3 + 1)) (L2 := [some (.ref 40), some (.int v1), some (.int (v2 ||| ((1 : Int32) <<< (v3 &&& 31)))), some (.int (v3 + 1))]) dX6_alone_52 rfl (by rw [show Int32.ofInt (1) = 1 by decide]) rfl (Nat.le_of_ble_eq_true rfl) <|
 x_goto (tgt := 13) dX6_alone_55 (by decide) <|
 (h11.1 c12)) (fun c12 => x_iconst dX6_alone_43 ic_0 <|
 x_goto (tgt := 50) dX6_alone_44 (by decide) <|
 x_ior dX6_alone_50 <|
 x_istore_n (L2 := [some (.ref 40), some (.int v1), some (.int (v2 ||| (0 : Int32))), some (.int v3)]) dX6_alone_51 rfl (Nat.le_of_ble_eq_true rfl) <|
 x_iinc (v := (v3 + 1)) (L2 := [some (.ref 40), some (.int v1), some (.int (v2 ||| (0 : Int32))), some (.int (v3 + 1))]) dX6_alone_52 rfl (by rw [show Int32.ofInt (1) = 1 by decide]) rfl (Nat.le_of_ble_eq_true rfl) <|
 x_goto (tgt := 13) dX6_alone_55 (by decide) <|
 (h11.2 c12))))))))))
set_option maxRecDepth 100000 in
set_option maxHeartbeats 4000000 in
theorem M_X6_alone {E : EV} {Q : Sg → Int32 → Prop} {σ : Sg} {a1 : Int32} (h : MetI E mi_X6_isThing [.int a1] σ (fun τ1 r2 => ((¬ r2 = 0) → K_X6_alone_13 E Q τ1 a1 (0 : Int32) (0 : Int32)) ∧ ((r2 = 0) → Q τ1 (-1 : Int32)))) : MetI E mi_X6_alone [.ref 40, .int a1] σ Q :=
 met_of (L := [some (.ref 40), some (.int a1), none, none]) pn_X6 rfl (Nat.le_of_ble_eq_true rfl) <|
 x_iload_n dX6_alone_0 rfl <|
 x_callS (As := [.int a1]) ok_X6_isThing ml_X6_169 (okM (by decide)) dX6_alone_1 rfl rfl (Nat.le_of_ble_eq_true rfl) h <|
 (kI (fun τ1 r2 h3 => x_if_ne (tgt := 9) dX6_alone_4 (by decide) (fun c4 => x_iconst dX6_alone_9 ic_0 <|
 x_istore_n (L2 := [some (.ref 40), some (.int a1), some (.int (0 : Int32)), none]) dX6_alone_10 rfl (Nat.le_of_ble_eq_true rfl) <|
 x_iconst dX6_alone_11 ic_0 <|
 x_istore_n (L2 := [some (.ref 40), some (.int a1), some (.int (0 : Int32)), some (.int (0 : Int32))]) dX6_alone_12 rfl (Nat.le_of_ble_eq_true rfl) <|
 (h3.1 c4)) (fun c4 => x_iconst dX6_alone_7 ic_m1 <|
 x_ireturn rfl dX6_alone_8 ⟨_, rfl, (h3.2 c4)⟩)))
set_option maxRecDepth 100000 in
set_option maxHeartbeats 4000000 in
theorem M_X6_empty {E : EV} {Q : Sg → Int32 → Prop} {σ : Sg} (h : MetV E mi_X6_goPlain [.ref 40, .int (0 : Int32)] σ (fun τ1 => Q τ1 (gi τ1 4022))) : MetI E mi_X6_empty [.ref 40] σ Q :=
 met_of (L := [some (.ref 40)]) pn_X6 rfl (Nat.le_of_ble_eq_true rfl) <|
 x_aload_n dX6_empty_0 rfl <|
 x_iconst dX6_empty_1 ic_0 <|
 x_callV (b := 40) (As := [.int (0 : Int32)]) ok_X6_goPlain ml_X6_172 (okM (by decide)) dX6_empty_2 rfl rfl (Nat.le_of_ble_eq_true rfl) rfl rfl rfl h <|
 (kV (fun τ1 h2 => x_aload_n dX6_empty_5 rfl <|
 x_getf (v := .int (gi τ1 4022)) fl_X6_150 rfl rfl rfl dX6_empty_6 <|
 x_ireturn rfl dX6_empty_9 ⟨_, rfl, h2⟩))
def K_X6_isLawBy_17 (E : EV) (Q : Sg → Int32 → Prop) (σ : Sg) (v1 : Int32) (v2 : Int32) (v3 : Int32) (v4 : Int32) (v5 : Int32) : Prop := J E mi_X6_isLawBy (tgM E mi_X6_isLawBy (qI Q)) 17 [some (.ref 40), some (.int v1), some (.int v2), some (.int v3), some (.int v4), some (.int v5)] [] σ
set_option maxRecDepth 100000 in
set_option maxHeartbeats 4000000 in
theorem B_X6_isLawBy_17 {E : EV} {Q : Sg → Int32 → Prop} {σ : Sg} {v1 : Int32} {v2 : Int32} {v3 : Int32} {v4 : Int32} {v5 : Int32} (h : (((8 : Int32) ≤ v5) → MetV E mi_X6_go [.ref 40, .int (0 : Int32)] σ (fun τ2 => vp_in v1 4 ∧ ((((gm τ2 54) v1.toNatClampNeg) = (-9 : Int32)) → Q τ2 (0 : Int32)) ∧ ((¬ ((gm τ2 54) v1.toNatClampNeg) = (-9 : Int32)) → Q τ2 (1 : Int32)))) ∧ ((¬ (8 : Int32) ≤ v5) → ((¬ ((v3 >>> (v5 &&& 31)) &&& (1 : Int32)) = (1 : Int32)) → K_X6_isLawBy_17 E Q σ v1 v2 v3 v4 (v5 + 1)) ∧ ((((v3 >>> (v5 &&& 31)) &&& (1 : Int32)) = (1 : Int32)) → vp_in (gi σ 4024) 8 ∧ K_X6_isLawBy_17 E Q (si (sm σ 56 (gi σ 4024).toNatClampNeg (v4 * (v5 + (1 : Int32)))) 4024 ((gi σ 4024) + (1 : Int32))) v1 v2 v3 v4 (v5 + 1)))) : K_X6_isLawBy_17 E Q σ v1 v2 v3 v4 v5 :=
 x_iload dX6_isLawBy_17 rfl <|
 x_bipush dX6_isLawBy_19 bp_8 <|
 x_icmp_ge (tgt := 66) dX6_isLawBy_21 (by decide) (fun c1 => x_aload_n dX6_isLawBy_66 rfl <|
 x_iconst dX6_isLawBy_67 ic_0 <|
 x_callV (b := 40) (As := [.int (0 : Int32)]) ok_X6_go ml_X6_166 (okM (by decide)) dX6_isLawBy_68 rfl rfl (Nat.le_of_ble_eq_true rfl) rfl rfl rfl (h.1 c1) <|
 (kV (fun τ2 h3 => x_aload_n dX6_isLawBy_71 rfl <|
 x_getf (v := .ref 54) fl_X6_51 rfl rfl rfl dX6_isLawBy_72 <|
 x_iload_n dX6_isLawBy_75 rfl <|
 x_iaload (v := ((gm τ2 54) v1.toNatClampNeg)) rfl h3.1 rfl dX6_isLawBy_76 <|
 x_bipush dX6_isLawBy_77 bp_m9 <|
 x_icmp_eq (tgt := 86) dX6_isLawBy_79 (by decide) (fun c4 => x_iconst dX6_isLawBy_86 ic_0 <|
 x_zreturn rfl (Or.inl rfl) dX6_isLawBy_87 ⟨_, rfl, (h3.2.1 c4)⟩) (fun c4 => x_iconst dX6_isLawBy_82 ic_1 <|
 x_goto (tgt := 87) dX6_isLawBy_83 (by decide) <|
 x_zreturn rfl (Or.inr rfl) dX6_isLawBy_87 ⟨_, rfl, (h3.2.2 c4)⟩)))) (fun c1 => x_iload_n dX6_isLawBy_24 rfl <|
 x_iload dX6_isLawBy_25 rfl <|
 x_ishr dX6_isLawBy_27 <|
 x_iconst dX6_isLawBy_28 ic_1 <|
 x_iand dX6_isLawBy_29 <|
 x_iconst dX6_isLawBy_30 ic_1 <|
 x_icmp_ne (tgt := 60) dX6_isLawBy_31 (by decide) (fun c5 => x_iinc (v := (v5 + 1)) (L2 := [some (.ref 40), some (.int v1), some (.int v2), some (.int v3), some (.int v4), some (.int (v5 + 1))]) dX6_isLawBy_60 rfl (by rw [show Int32.ofInt (1) = 1 by decide]) rfl (Nat.le_of_ble_eq_true rfl) <|
 x_goto (tgt := 17) dX6_isLawBy_63 (by decide) <|
 ((h.2 c1).1 c5)) (fun c5 => x_aload_n dX6_isLawBy_34 rfl <|
 x_getf (v := .ref 56) fl_X6_57 rfl rfl rfl dX6_isLawBy_35 <|
 x_aload_n dX6_isLawBy_38 rfl <|
 x_getf (v := .int (gi σ 4024)) fl_X6_121 rfl rfl rfl dX6_isLawBy_39 <|
 x_iload dX6_isLawBy_42 rfl <|
 x_iload dX6_isLawBy_44 rfl <|
 x_iconst dX6_isLawBy_46 ic_1 <|
 x_iadd dX6_isLawBy_47 <|
 x_imul dX6_isLawBy_48 <|
 x_iastore rfl ((h.2 c1).2 c5).1 dX6_isLawBy_49 <|
 x_aload_n dX6_isLawBy_50 rfl <|
 x_dup dX6_isLawBy_51 rfl <|
 x_getf (v := .int (gi σ 4024)) fl_X6_121 rfl rfl rfl dX6_isLawBy_52 <|
 x_iconst dX6_isLawBy_55 ic_1 <|
 x_iadd dX6_isLawBy_56 <|
 x_puti fp_X6_121 rfl rfl dX6_isLawBy_57 <|
 x_iinc (v := (v5 + 1)) (L2 := [some (.ref 40), some (.int v1), some (.int v2), some (.int v3), some (.int v4), some (.int (v5 + 1))]) dX6_isLawBy_60 rfl (by rw [show Int32.ofInt (1) = 1 by decide]) rfl (Nat.le_of_ble_eq_true rfl) <|
 x_goto (tgt := 17) dX6_isLawBy_63 (by decide) <|
 ((h.2 c1).2 c5).2))
set_option maxRecDepth 100000 in
set_option maxHeartbeats 4000000 in
theorem M_X6_isLawBy {E : EV} {Q : Sg → Int32 → Prop} {σ : Sg} {a1 : Int32} {a2 : Int32} {a3 : Int32} {a4 : Int32} (h : MetV E mi_X6_plain [.ref 40] σ (fun τ1 => K_X6_isLawBy_17 E Q (si (si τ1 4025 a1) 4026 a2) a1 a2 a3 a4 (0 : Int32))) : MetI E mi_X6_isLawBy [.ref 40, .int a1, .int a2, .int a3, .int a4] σ Q :=
 met_of (L := [some (.ref 40), some (.int a1), some (.int a2), some (.int a3), some (.int a4), none]) pn_X6 rfl (Nat.le_of_ble_eq_true rfl) <|
 x_aload_n dX6_isLawBy_0 rfl <|
 x_callV (b := 40) (As := []) ok_X6_plain ml_X6_163 (okM (by decide)) dX6_isLawBy_1 rfl rfl (Nat.le_of_ble_eq_true rfl) rfl rfl rfl h <|
 (kV (fun τ1 h2 => x_aload_n dX6_isLawBy_4 rfl <|
 x_iload_n dX6_isLawBy_5 rfl <|
 x_puti fp_X6_137 rfl rfl dX6_isLawBy_6 <|
 x_aload_n dX6_isLawBy_9 rfl <|
 x_iload_n dX6_isLawBy_10 rfl <|
 x_puti fp_X6_124 rfl rfl dX6_isLawBy_11 <|
 x_iconst dX6_isLawBy_14 ic_0 <|
 x_istore (L2 := [some (.ref 40), some (.int a1), some (.int a2), some (.int a3), some (.int a4), some (.int (0 : Int32))]) dX6_isLawBy_15 rfl (Nat.le_of_ble_eq_true rfl) <|
 h2))
def K_X6_fewestBy_7 (E : EV) (Q : Sg → Int32 → Prop) (σ : Sg) (v1 : Int32) (v2 : Int32) (v3 : Int32) (v4 : Int32) (v5 : Int32) (v6 : Int32) : Prop := J E mi_X6_fewestBy (tgM E mi_X6_fewestBy (qI Q)) 7 [some (.ref 40), some (.int v1), some (.int v2), some (.int v3), some (.int v4), some (.int v5), some (.int v6), none] [] σ
set_option maxRecDepth 100000 in
set_option maxHeartbeats 4000000 in
theorem B_X6_fewestBy_7 {E : EV} {Q : Sg → Int32 → Prop} {σ : Sg} {v1 : Int32} {v2 : Int32} {v3 : Int32} {v4 : Int32} {v5 : Int32} {v6 : Int32} (h : ((((1 : Int32) <<< (((gm σ 42) 0) &&& 31)) ≤ v6) → Q σ v5) ∧ ((¬ ((1 : Int32) <<< (((gm σ 42) 0) &&& 31)) ≤ v6) → ((v5 = (-9 : Int32)) → MetI E mi_X6_isLawBy [.ref 40, .int v1, .int v2, .int v6, .int v3] σ (fun τ3 r4 => ((¬ r4 = v4) → K_X6_fewestBy_7 E Q τ3 v1 v2 v3 v4 v5 (v6 + 1)) ∧ ((r4 = v4) → K_X6_fewestBy_7 E Q τ3 v1 v2 v3 v4 v6 (v6 + 1)))) ∧ ((¬ v5 = (-9 : Int32)) → MetI E mi_X6_bitsIn [.int v6] σ (fun τ7 r8 => MetI E mi_X6_bitsIn [.int v5] τ7 (fun τ10 r11 => ((r11 ≤ r8) → K_X6_fewestBy_7 E Q τ10 v1 v2 v3 v4 v5 (v6 + 1)) ∧ ((¬ r11 ≤ r8) → MetI E mi_X6_isLawBy [.ref 40, .int v1, .int v2, .int v6, .int v3] τ10 (fun τ14 r15 => ((¬ r15 = v4) → K_X6_fewestBy_7 E Q τ14 v1 v2 v3 v4 v5 (v6 + 1)) ∧ ((r15 = v4) → K_X6_fewestBy_7 E Q τ14 v1 v2 v3 v4 v6 (v6 + 1))))))))) : K_X6_fewestBy_7 E Q σ v1 v2 v3 v4 v5 v6 :=
 x_iload dX6_fewestBy_7 rfl <|
 x_iconst dX6_fewestBy_9 ic_1 <|
 x_aload_n dX6_fewestBy_10 rfl <|
 x_getf (v := .ref 42) fl_X6_13 rfl rfl rfl dX6_fewestBy_11 <|
 x_iconst dX6_fewestBy_14 ic_0 <|
 x_iaload (v := ((gm σ 42) 0)) rfl (vpd (by decide)) rfl dX6_fewestBy_15 <|
 x_ishl dX6_fewestBy_16 <|
 x_icmp_ge (tgt := 81) dX6_fewestBy_17 (by decide) (fun c1 => x_iload dX6_fewestBy_81 rfl <|
 x_ireturn rfl dX6_fewestBy_83 ⟨_, rfl, (h.1 c1)⟩) (fun c1 => x_iload dX6_fewestBy_20 rfl <|
 x_bipush dX6_fewestBy_22 bp_m9 <|
 x_icmp_eq (tgt := 40) dX6_fewestBy_24 (by decide) (fun c2 => x_iconst dX6_fewestBy_40 ic_1 <|
 x_goto (tgt := 45) dX6_fewestBy_41 (by decide) <|
 x_istore (L2 := [some (.ref 40), some (.int v1), some (.int v2), some (.int v3), some (.int v4), some (.int v5), some (.int v6), some (.int (1 : Int32))]) dX6_fewestBy_45 rfl (Nat.le_of_ble_eq_true rfl) <|
 x_iload dX6_fewestBy_47 rfl <|
 x_if_eq (tgt := 71) dX6_fewestBy_49 (by decide) (fun c => absurd c (by decide)) (fun _ => x_aload_n dX6_fewestBy_52 rfl <|
 x_iload_n dX6_fewestBy_53 rfl <|
 x_iload_n dX6_fewestBy_54 rfl <|
 x_iload dX6_fewestBy_55 rfl <|
 x_iload_n dX6_fewestBy_57 rfl <|
 x_callV (b := 40) (As := [.int v1, .int v2, .int v6, .int v3]) ok_X6_isLawBy ml_X6_185 (okM (by decide)) dX6_fewestBy_58 rfl rfl (Nat.le_of_ble_eq_true rfl) rfl rfl rfl ((h.2 c1).1 c2) <|
 (kI (fun τ3 r4 h5 => x_iload dX6_fewestBy_61 rfl <|
 x_icmp_ne (tgt := 71) dX6_fewestBy_63 (by decide) (fun c6 => x_iload dX6_fewestBy_71 rfl <|
 x_istore (L2 := [some (.ref 40), some (.int v1), some (.int v2), some (.int v3), some (.int v4), some (.int v5), some (.int v6), some (.int (1 : Int32))]) dX6_fewestBy_73 rfl (Nat.le_of_ble_eq_true rfl) <|
 x_iinc (v := (v6 + 1)) (L2 := [some (.ref 40), some (.int v1), some (.int v2), some (.int v3), some (.int v4), some (.int v5), some (.int (v6 + 1)), some (.int (1 : Int32))]) dX6_fewestBy_75 rfl (by rw [show Int32.ofInt (1) = 1 by decide]) rfl (Nat.le_of_ble_eq_true rfl) <|
 x_goto (tgt := 7) dX6_fewestBy_78 (by decide) <|
 x_sub (L2 := [some (.ref 40), some (.int v1), some (.int v2), some (.int v3), some (.int v4), some (.int v5), some (.int (v6 + 1)), none]) ⟨rfl, rfl, rfl, rfl, rfl, rfl, rfl, trivial⟩ (h5.1 c6)) (fun c6 => x_iload dX6_fewestBy_66 rfl <|
 x_goto (tgt := 73) dX6_fewestBy_68 (by decide) <|
 x_istore (L2 := [some (.ref 40), some (.int v1), some (.int v2), some (.int v3), some (.int v4), some (.int v6), some (.int v6), some (.int (1 : Int32))]) dX6_fewestBy_73 rfl (Nat.le_of_ble_eq_true rfl) <|
 x_iinc (v := (v6 + 1)) (L2 := [some (.ref 40), some (.int v1), some (.int v2), some (.int v3), some (.int v4), some (.int v6), some (.int (v6 + 1)), some (.int (1 : Int32))]) dX6_fewestBy_75 rfl (by rw [show Int32.ofInt (1) = 1 by decide]) rfl (Nat.le_of_ble_eq_true rfl) <|
 x_goto (tgt := 7) dX6_fewestBy_78 (by decide) <|
 x_sub (L2 := [some (.ref 40), some (.int v1), some (.int v2), some (.int v3), some (.int v4), some (.int v6), some (.int (v6 + 1)), none]) ⟨rfl, rfl, rfl, rfl, rfl, rfl, rfl, trivial⟩ (h5.2 c6)))))) (fun c2 => x_iload dX6_fewestBy_27 rfl <|
 x_callS (As := [.int v6]) ok_X6_bitsIn ml_X6_175 (okM (by decide)) dX6_fewestBy_29 rfl rfl (Nat.le_of_ble_eq_true rfl) ((h.2 c1).2 c2) <|
 (kI (fun τ7 r8 h9 => x_iload dX6_fewestBy_32 rfl <|
 x_callS (As := [.int v5]) ok_X6_bitsIn ml_X6_175 (okM (by decide)) dX6_fewestBy_34 rfl rfl (Nat.le_of_ble_eq_true rfl) h9 <|
 (kI (fun τ10 r11 h12 => x_icmp_ge (tgt := 44) dX6_fewestBy_37 (by decide) (fun c13 => x_iconst dX6_fewestBy_44 ic_0 <|
 x_istore (L2 := [some (.ref 40), some (.int v1), some (.int v2), some (.int v3), some (.int v4), some (.int v5), some (.int v6), some (.int (0 : Int32))]) dX6_fewestBy_45 rfl (Nat.le_of_ble_eq_true rfl) <|
 x_iload dX6_fewestBy_47 rfl <|
 x_if_eq (tgt := 71) dX6_fewestBy_49 (by decide) (fun _ => x_iload dX6_fewestBy_71 rfl <|
 x_istore (L2 := [some (.ref 40), some (.int v1), some (.int v2), some (.int v3), some (.int v4), some (.int v5), some (.int v6), some (.int (0 : Int32))]) dX6_fewestBy_73 rfl (Nat.le_of_ble_eq_true rfl) <|
 x_iinc (v := (v6 + 1)) (L2 := [some (.ref 40), some (.int v1), some (.int v2), some (.int v3), some (.int v4), some (.int v5), some (.int (v6 + 1)), some (.int (0 : Int32))]) dX6_fewestBy_75 rfl (by rw [show Int32.ofInt (1) = 1 by decide]) rfl (Nat.le_of_ble_eq_true rfl) <|
 x_goto (tgt := 7) dX6_fewestBy_78 (by decide) <|
 x_sub (L2 := [some (.ref 40), some (.int v1), some (.int v2), some (.int v3), some (.int v4), some (.int v5), some (.int (v6 + 1)), none]) ⟨rfl, rfl, rfl, rfl, rfl, rfl, rfl, trivial⟩ (h12.1 c13)) (fun c => absurd c (by decide))) (fun c13 => x_iconst dX6_fewestBy_40 ic_1 <|
 x_goto (tgt := 45) dX6_fewestBy_41 (by decide) <|
 x_istore (L2 := [some (.ref 40), some (.int v1), some (.int v2), some (.int v3), some (.int v4), some (.int v5), some (.int v6), some (.int (1 : Int32))]) dX6_fewestBy_45 rfl (Nat.le_of_ble_eq_true rfl) <|
 x_iload dX6_fewestBy_47 rfl <|
 x_if_eq (tgt := 71) dX6_fewestBy_49 (by decide) (fun c => absurd c (by decide)) (fun _ => x_aload_n dX6_fewestBy_52 rfl <|
 x_iload_n dX6_fewestBy_53 rfl <|
 x_iload_n dX6_fewestBy_54 rfl <|
 x_iload dX6_fewestBy_55 rfl <|
 x_iload_n dX6_fewestBy_57 rfl <|
 x_callV (b := 40) (As := [.int v1, .int v2, .int v6, .int v3]) ok_X6_isLawBy ml_X6_185 (okM (by decide)) dX6_fewestBy_58 rfl rfl (Nat.le_of_ble_eq_true rfl) rfl rfl rfl (h12.2 c13) <|
 (kI (fun τ14 r15 h16 => x_iload dX6_fewestBy_61 rfl <|
 x_icmp_ne (tgt := 71) dX6_fewestBy_63 (by decide) (fun c17 => x_iload dX6_fewestBy_71 rfl <|
 x_istore (L2 := [some (.ref 40), some (.int v1), some (.int v2), some (.int v3), some (.int v4), some (.int v5), some (.int v6), some (.int (1 : Int32))]) dX6_fewestBy_73 rfl (Nat.le_of_ble_eq_true rfl) <|
 x_iinc (v := (v6 + 1)) (L2 := [some (.ref 40), some (.int v1), some (.int v2), some (.int v3), some (.int v4), some (.int v5), some (.int (v6 + 1)), some (.int (1 : Int32))]) dX6_fewestBy_75 rfl (by rw [show Int32.ofInt (1) = 1 by decide]) rfl (Nat.le_of_ble_eq_true rfl) <|
 x_goto (tgt := 7) dX6_fewestBy_78 (by decide) <|
 x_sub (L2 := [some (.ref 40), some (.int v1), some (.int v2), some (.int v3), some (.int v4), some (.int v5), some (.int (v6 + 1)), none]) ⟨rfl, rfl, rfl, rfl, rfl, rfl, rfl, trivial⟩ (h16.1 c17)) (fun c17 => x_iload dX6_fewestBy_66 rfl <|
 x_goto (tgt := 73) dX6_fewestBy_68 (by decide) <|
 x_istore (L2 := [some (.ref 40), some (.int v1), some (.int v2), some (.int v3), some (.int v4), some (.int v6), some (.int v6), some (.int (1 : Int32))]) dX6_fewestBy_73 rfl (Nat.le_of_ble_eq_true rfl) <|
 x_iinc (v := (v6 + 1)) (L2 := [some (.ref 40), some (.int v1), some (.int v2), some (.int v3), some (.int v4), some (.int v6), some (.int (v6 + 1)), some (.int (1 : Int32))]) dX6_fewestBy_75 rfl (by rw [show Int32.ofInt (1) = 1 by decide]) rfl (Nat.le_of_ble_eq_true rfl) <|
 x_goto (tgt := 7) dX6_fewestBy_78 (by decide) <|
 x_sub (L2 := [some (.ref 40), some (.int v1), some (.int v2), some (.int v3), some (.int v4), some (.int v6), some (.int (v6 + 1)), none]) ⟨rfl, rfl, rfl, rfl, rfl, rfl, rfl, trivial⟩ (h16.2 c17))))))))))))
set_option maxRecDepth 100000 in
set_option maxHeartbeats 4000000 in
theorem M_X6_fewestBy {E : EV} {Q : Sg → Int32 → Prop} {σ : Sg} {a1 : Int32} {a2 : Int32} {a3 : Int32} {a4 : Int32} (h : K_X6_fewestBy_7 E Q σ a1 a2 a3 a4 (-9 : Int32) (0 : Int32)) : MetI E mi_X6_fewestBy [.ref 40, .int a1, .int a2, .int a3, .int a4] σ Q :=
 met_of (L := [some (.ref 40), some (.int a1), some (.int a2), some (.int a3), some (.int a4), none, none, none]) pn_X6 rfl (Nat.le_of_ble_eq_true rfl) <|
 x_bipush dX6_fewestBy_0 bp_m9 <|
 x_istore (L2 := [some (.ref 40), some (.int a1), some (.int a2), some (.int a3), some (.int a4), some (.int (-9 : Int32)), none, none]) dX6_fewestBy_2 rfl (Nat.le_of_ble_eq_true rfl) <|
 x_iconst dX6_fewestBy_4 ic_0 <|
 x_istore (L2 := [some (.ref 40), some (.int a1), some (.int a2), some (.int a3), some (.int a4), some (.int (-9 : Int32)), some (.int (0 : Int32)), none]) dX6_fewestBy_5 rfl (Nat.le_of_ble_eq_true rfl) <|
 h
set_option maxRecDepth 100000 in
set_option maxHeartbeats 4000000 in
theorem M_X6_hints {E : EV} {Q : Sg → Int32 → Prop} {σ : Sg} {a1 : Int32} {a2 : Int32} (h : MetI E mi_X6_isThing [.int a1] σ (fun τ1 r2 => ((r2 = 0) → Q τ1 (-1 : Int32)) ∧ ((¬ r2 = 0) → MetI E mi_X6_in [.int a2, .int (0 : Int32), .int (99 : Int32)] τ1 (fun τ5 r6 => ((r6 = 0) → Q τ5 (-1 : Int32)) ∧ ((¬ r6 = 0) → MetI E mi_X6_fewestBy [.ref 40, .int a1, .int a2, .int (1 : Int32), .int (1 : Int32)] τ5 (fun τ9 r10 => Q τ9 r10)))))) : MetI E mi_X6_hints [.ref 40, .int a1, .int a2] σ Q :=
 met_of (L := [some (.ref 40), some (.int a1), some (.int a2)]) pn_X6 rfl (Nat.le_of_ble_eq_true rfl) <|
 x_iload_n dX6_hints_0 rfl <|
 x_callS (As := [.int a1]) ok_X6_isThing ml_X6_169 (okM (by decide)) dX6_hints_1 rfl rfl (Nat.le_of_ble_eq_true rfl) h <|
 (kI (fun τ1 r2 h3 => x_if_eq (tgt := 28) dX6_hints_4 (by decide) (fun c4 => x_iconst dX6_hints_28 ic_m1 <|
 x_ireturn rfl dX6_hints_29 ⟨_, rfl, (h3.1 c4)⟩) (fun c4 => x_iload_n dX6_hints_7 rfl <|
 x_iconst dX6_hints_8 ic_0 <|
 x_bipush dX6_hints_9 bp_99 <|
 x_callS (As := [.int a2, .int (0 : Int32), .int (99 : Int32)]) ok_X6_in ml_X6_63 (okM (by decide)) dX6_hints_11 rfl rfl (Nat.le_of_ble_eq_true rfl) (h3.2 c4) <|
 (kI (fun τ5 r6 h7 => x_if_eq (tgt := 28) dX6_hints_14 (by decide) (fun c8 => x_iconst dX6_hints_28 ic_m1 <|
 x_ireturn rfl dX6_hints_29 ⟨_, rfl, (h7.1 c8)⟩) (fun c8 => x_aload_n dX6_hints_17 rfl <|
 x_iload_n dX6_hints_18 rfl <|
 x_iload_n dX6_hints_19 rfl <|
 x_iconst dX6_hints_20 ic_1 <|
 x_iconst dX6_hints_21 ic_1 <|
 x_callV (b := 40) (As := [.int a1, .int a2, .int (1 : Int32), .int (1 : Int32)]) ok_X6_fewestBy ml_X6_188 (okM (by decide)) dX6_hints_22 rfl rfl (Nat.le_of_ble_eq_true rfl) rfl rfl rfl (h7.2 c8) <|
 (kI (fun τ9 r10 h11 => x_goto (tgt := 29) dX6_hints_25 (by decide) <|
 x_ireturn rfl dX6_hints_29 ⟨_, rfl, h11⟩))))))))
set_option maxRecDepth 100000 in
set_option maxHeartbeats 4000000 in
theorem M_X6_hinder {E : EV} {Q : Sg → Int32 → Prop} {σ : Sg} {a1 : Int32} {a2 : Int32} (h : MetI E mi_X6_isThing [.int a1] σ (fun τ1 r2 => ((r2 = 0) → Q τ1 (-1 : Int32)) ∧ ((¬ r2 = 0) → MetI E mi_X6_in [.int a2, .int (0 : Int32), .int (99 : Int32)] τ1 (fun τ5 r6 => ((r6 = 0) → Q τ5 (-1 : Int32)) ∧ ((¬ r6 = 0) → MetI E mi_X6_fewestBy [.ref 40, .int a1, .int a2, .int (-1 : Int32), .int (0 : Int32)] τ5 (fun τ9 r10 => Q τ9 r10)))))) : MetI E mi_X6_hinder [.ref 40, .int a1, .int a2] σ Q :=
 met_of (L := [some (.ref 40), some (.int a1), some (.int a2)]) pn_X6 rfl (Nat.le_of_ble_eq_true rfl) <|
 x_iload_n dX6_hinder_0 rfl <|
 x_callS (As := [.int a1]) ok_X6_isThing ml_X6_169 (okM (by decide)) dX6_hinder_1 rfl rfl (Nat.le_of_ble_eq_true rfl) h <|
 (kI (fun τ1 r2 h3 => x_if_eq (tgt := 28) dX6_hinder_4 (by decide) (fun c4 => x_iconst dX6_hinder_28 ic_m1 <|
 x_ireturn rfl dX6_hinder_29 ⟨_, rfl, (h3.1 c4)⟩) (fun c4 => x_iload_n dX6_hinder_7 rfl <|
 x_iconst dX6_hinder_8 ic_0 <|
 x_bipush dX6_hinder_9 bp_99 <|
 x_callS (As := [.int a2, .int (0 : Int32), .int (99 : Int32)]) ok_X6_in ml_X6_63 (okM (by decide)) dX6_hinder_11 rfl rfl (Nat.le_of_ble_eq_true rfl) (h3.2 c4) <|
 (kI (fun τ5 r6 h7 => x_if_eq (tgt := 28) dX6_hinder_14 (by decide) (fun c8 => x_iconst dX6_hinder_28 ic_m1 <|
 x_ireturn rfl dX6_hinder_29 ⟨_, rfl, (h7.1 c8)⟩) (fun c8 => x_aload_n dX6_hinder_17 rfl <|
 x_iload_n dX6_hinder_18 rfl <|
 x_iload_n dX6_hinder_19 rfl <|
 x_iconst dX6_hinder_20 ic_m1 <|
 x_iconst dX6_hinder_21 ic_0 <|
 x_callV (b := 40) (As := [.int a1, .int a2, .int (-1 : Int32), .int (0 : Int32)]) ok_X6_fewestBy ml_X6_188 (okM (by decide)) dX6_hinder_22 rfl rfl (Nat.le_of_ble_eq_true rfl) rfl rfl rfl (h7.2 c8) <|
 (kI (fun τ9 r10 h11 => x_goto (tgt := 29) dX6_hinder_25 (by decide) <|
 x_ireturn rfl dX6_hinder_29 ⟨_, rfl, h11⟩))))))))
def K_X6_isLawByTurns_33 (E : EV) (Q : Sg → Int32 → Prop) (σ : Sg) (v1 : Int32) (v2 : Int32) (v3 : Int32) (v4 : Int32) (v5 : Int32) (v6 : Int32) : Prop := J E mi_X6_isLawByTurns (tgM E mi_X6_isLawByTurns (qI Q)) 33 [some (.ref 40), some (.int v1), some (.int v2), some (.int v3), some (.int v4), some (.int v5), some (.int v6)] [] σ
set_option maxRecDepth 100000 in
set_option maxHeartbeats 4000000 in
theorem B_X6_isLawByTurns_33 {E : EV} {Q : Sg → Int32 → Prop} {σ : Sg} {v1 : Int32} {v2 : Int32} {v3 : Int32} {v4 : Int32} {v5 : Int32} {v6 : Int32} (h : ((v6 < 0) → MetV E mi_X6_go [.ref 40, .int (0 : Int32)] σ (fun τ2 => vp_in v1 4 ∧ ((((gm τ2 54) v1.toNatClampNeg) = (-9 : Int32)) → Q τ2 (0 : Int32)) ∧ ((¬ ((gm τ2 54) v1.toNatClampNeg) = (-9 : Int32)) → Q τ2 (1 : Int32)))) ∧ ((¬ v6 < 0) → ((¬ (v6 - v6 / (2 : Int32) * (2 : Int32)) = 0) → ¬ (((gm σ 42) 0) + (1 : Int32)) = 0 ∧ vp_in v6 8 ∧ ¬ (((gm σ 42) 0) + (1 : Int32)) = 0 ∧ K_X6_isLawByTurns_33 E Q (sm σ 56 v6.toNatClampNeg ((-1 : Int32) * (v5 - v5 / (((gm σ 42) 0) + (1 : Int32)) * (((gm σ 42) 0) + (1 : Int32))))) v1 v2 v3 v4 (v5 / (((gm σ 42) 0) + (1 : Int32))) (v6 + (-1))) ∧ (((v6 - v6 / (2 : Int32) * (2 : Int32)) = 0) → ¬ (((gm σ 42) 0) + (1 : Int32)) = 0 ∧ vp_in v6 8 ∧ ¬ (((gm σ 42) 0) + (1 : Int32)) = 0 ∧ K_X6_isLawByTurns_33 E Q (sm σ 56 v6.toNatClampNeg ((1 : Int32) * (v5 - v5 / (((gm σ 42) 0) + (1 : Int32)) * (((gm σ 42) 0) + (1 : Int32))))) v1 v2 v3 v4 (v5 / (((gm σ 42) 0) + (1 : Int32))) (v6 + (-1))))) : K_X6_isLawByTurns_33 E Q σ v1 v2 v3 v4 v5 v6 :=
 x_iload dX6_isLawByTurns_33 rfl <|
 x_if_lt (tgt := 88) dX6_isLawByTurns_35 (by decide) (fun c1 => x_aload_n dX6_isLawByTurns_88 rfl <|
 x_iconst dX6_isLawByTurns_89 ic_0 <|
 x_callV (b := 40) (As := [.int (0 : Int32)]) ok_X6_go ml_X6_166 (okM (by decide)) dX6_isLawByTurns_90 rfl rfl (Nat.le_of_ble_eq_true rfl) rfl rfl rfl (h.1 c1) <|
 (kV (fun τ2 h3 => x_aload_n dX6_isLawByTurns_93 rfl <|
 x_getf (v := .ref 54) fl_X6_51 rfl rfl rfl dX6_isLawByTurns_94 <|
 x_iload_n dX6_isLawByTurns_97 rfl <|
 x_iaload (v := ((gm τ2 54) v1.toNatClampNeg)) rfl h3.1 rfl dX6_isLawByTurns_98 <|
 x_bipush dX6_isLawByTurns_99 bp_m9 <|
 x_icmp_eq (tgt := 108) dX6_isLawByTurns_101 (by decide) (fun c4 => x_iconst dX6_isLawByTurns_108 ic_0 <|
 x_zreturn rfl (Or.inl rfl) dX6_isLawByTurns_109 ⟨_, rfl, (h3.2.1 c4)⟩) (fun c4 => x_iconst dX6_isLawByTurns_104 ic_1 <|
 x_goto (tgt := 109) dX6_isLawByTurns_105 (by decide) <|
 x_zreturn rfl (Or.inr rfl) dX6_isLawByTurns_109 ⟨_, rfl, (h3.2.2 c4)⟩)))) (fun c1 => x_aload_n dX6_isLawByTurns_38 rfl <|
 x_getf (v := .ref 56) fl_X6_57 rfl rfl rfl dX6_isLawByTurns_39 <|
 x_iload dX6_isLawByTurns_42 rfl <|
 x_iload dX6_isLawByTurns_44 rfl <|
 x_iconst dX6_isLawByTurns_46 ic_2 <|
 x_irem dX6_isLawByTurns_47 (by decide) <|
 x_if_ne (tgt := 55) dX6_isLawByTurns_48 (by decide) (fun c5 => x_iconst dX6_isLawByTurns_55 ic_m1 <|
 x_iload dX6_isLawByTurns_56 rfl <|
 x_aload_n dX6_isLawByTurns_58 rfl <|
 x_getf (v := .ref 42) fl_X6_13 rfl rfl rfl dX6_isLawByTurns_59 <|
 x_iconst dX6_isLawByTurns_62 ic_0 <|
 x_iaload (v := ((gm σ 42) 0)) rfl (vpd (by decide)) rfl dX6_isLawByTurns_63 <|
 x_iconst dX6_isLawByTurns_64 ic_1 <|
 x_iadd dX6_isLawByTurns_65 <|
 x_irem dX6_isLawByTurns_66 ((h.2 c1).1 c5).1 <|
 x_imul dX6_isLawByTurns_67 <|
 x_iastore rfl ((h.2 c1).1 c5).2.1 dX6_isLawByTurns_68 <|
 x_iload dX6_isLawByTurns_69 rfl <|
 x_aload_n dX6_isLawByTurns_71 rfl <|
 x_getf (v := .ref 42) fl_X6_13 rfl rfl rfl dX6_isLawByTurns_72 <|
 x_iconst dX6_isLawByTurns_75 ic_0 <|
 x_iaload (v := ((gm σ 42) 0)) rfl (vpd (by decide)) rfl dX6_isLawByTurns_76 <|
 x_iconst dX6_isLawByTurns_77 ic_1 <|
 x_iadd dX6_isLawByTurns_78 <|
 x_idiv dX6_isLawByTurns_79 ((h.2 c1).1 c5).2.2.1 <|
 x_istore (L2 := [some (.ref 40), some (.int v1), some (.int v2), some (.int v3), some (.int v4), some (.int (v5 / (((gm σ 42) 0) + (1 : Int32)))), some (.int v6)]) dX6_isLawByTurns_80 rfl (Nat.le_of_ble_eq_true rfl) <|
 x_iinc (v := (v6 + (-1))) (L2 := [some (.ref 40), some (.int v1), some (.int v2), some (.int v3), some (.int v4), some (.int (v5 / (((gm σ 42) 0) + (1 : Int32)))), some (.int (v6 + (-1)))]) dX6_isLawByTurns_82 rfl (by rw [show Int32.ofInt (-1) = -1 by decide]) rfl (Nat.le_of_ble_eq_true rfl) <|
 x_goto (tgt := 33) dX6_isLawByTurns_85 (by decide) <|
 ((h.2 c1).1 c5).2.2.2) (fun c5 => x_iconst dX6_isLawByTurns_51 ic_1 <|
 x_goto (tgt := 56) dX6_isLawByTurns_52 (by decide) <|
 x_iload dX6_isLawByTurns_56 rfl <|
 x_aload_n dX6_isLawByTurns_58 rfl <|
 x_getf (v := .ref 42) fl_X6_13 rfl rfl rfl dX6_isLawByTurns_59 <|
 x_iconst dX6_isLawByTurns_62 ic_0 <|
 x_iaload (v := ((gm σ 42) 0)) rfl (vpd (by decide)) rfl dX6_isLawByTurns_63 <|
 x_iconst dX6_isLawByTurns_64 ic_1 <|
 x_iadd dX6_isLawByTurns_65 <|
 x_irem dX6_isLawByTurns_66 ((h.2 c1).2 c5).1 <|
 x_imul dX6_isLawByTurns_67 <|
 x_iastore rfl ((h.2 c1).2 c5).2.1 dX6_isLawByTurns_68 <|
 x_iload dX6_isLawByTurns_69 rfl <|
 x_aload_n dX6_isLawByTurns_71 rfl <|
 x_getf (v := .ref 42) fl_X6_13 rfl rfl rfl dX6_isLawByTurns_72 <|
 x_iconst dX6_isLawByTurns_75 ic_0 <|
 x_iaload (v := ((gm σ 42) 0)) rfl (vpd (by decide)) rfl dX6_isLawByTurns_76 <|
 x_iconst dX6_isLawByTurns_77 ic_1 <|
 x_iadd dX6_isLawByTurns_78 <|
 x_idiv dX6_isLawByTurns_79 ((h.2 c1).2 c5).2.2.1 <|
 x_istore (L2 := [some (.ref 40), some (.int v1), some (.int v2), some (.int v3), some (.int v4), some (.int (v5 / (((gm σ 42) 0) + (1 : Int32)))), some (.int v6)]) dX6_isLawByTurns_80 rfl (Nat.le_of_ble_eq_true rfl) <|
 x_iinc (v := (v6 + (-1))) (L2 := [some (.ref 40), some (.int v1), some (.int v2), some (.int v3), some (.int v4), some (.int (v5 / (((gm σ 42) 0) + (1 : Int32)))), some (.int (v6 + (-1)))]) dX6_isLawByTurns_82 rfl (by rw [show Int32.ofInt (-1) = -1 by decide]) rfl (Nat.le_of_ble_eq_true rfl) <|
 x_goto (tgt := 33) dX6_isLawByTurns_85 (by decide) <|
 ((h.2 c1).2 c5).2.2.2))
set_option maxRecDepth 100000 in
set_option maxHeartbeats 4000000 in
theorem M_X6_isLawByTurns {E : EV} {Q : Sg → Int32 → Prop} {σ : Sg} {a1 : Int32} {a2 : Int32} {a3 : Int32} {a4 : Int32} (h : MetV E mi_X6_plain [.ref 40] σ (fun τ1 => K_X6_isLawByTurns_33 E Q (si (si (si τ1 4025 a1) 4026 a2) 4024 ((2 : Int32) * a3)) a1 a2 a3 a4 a4 (((2 : Int32) * a3) - (1 : Int32)))) : MetI E mi_X6_isLawByTurns [.ref 40, .int a1, .int a2, .int a3, .int a4] σ Q :=
 met_of (L := [some (.ref 40), some (.int a1), some (.int a2), some (.int a3), some (.int a4), none, none]) pn_X6 rfl (Nat.le_of_ble_eq_true rfl) <|
 x_aload_n dX6_isLawByTurns_0 rfl <|
 x_callV (b := 40) (As := []) ok_X6_plain ml_X6_163 (okM (by decide)) dX6_isLawByTurns_1 rfl rfl (Nat.le_of_ble_eq_true rfl) rfl rfl rfl h <|
 (kV (fun τ1 h2 => x_aload_n dX6_isLawByTurns_4 rfl <|
 x_iload_n dX6_isLawByTurns_5 rfl <|
 x_puti fp_X6_137 rfl rfl dX6_isLawByTurns_6 <|
 x_aload_n dX6_isLawByTurns_9 rfl <|
 x_iload_n dX6_isLawByTurns_10 rfl <|
 x_puti fp_X6_124 rfl rfl dX6_isLawByTurns_11 <|
 x_aload_n dX6_isLawByTurns_14 rfl <|
 x_iconst dX6_isLawByTurns_15 ic_2 <|
 x_iload_n dX6_isLawByTurns_16 rfl <|
 x_imul dX6_isLawByTurns_17 <|
 x_puti fp_X6_121 rfl rfl dX6_isLawByTurns_18 <|
 x_iload dX6_isLawByTurns_21 rfl <|
 x_istore (L2 := [some (.ref 40), some (.int a1), some (.int a2), some (.int a3), some (.int a4), some (.int a4), none]) dX6_isLawByTurns_23 rfl (Nat.le_of_ble_eq_true rfl) <|
 x_aload_n dX6_isLawByTurns_25 rfl <|
 x_getf (v := .int ((2 : Int32) * a3)) fl_X6_121 rfl rfl rfl dX6_isLawByTurns_26 <|
 x_iconst dX6_isLawByTurns_29 ic_1 <|
 x_isub dX6_isLawByTurns_30 <|
 x_istore (L2 := [some (.ref 40), some (.int a1), some (.int a2), some (.int a3), some (.int a4), some (.int a4), some (.int (((2 : Int32) * a3) - (1 : Int32)))]) dX6_isLawByTurns_31 rfl (Nat.le_of_ble_eq_true rfl) <|
 h2))
def K_X6_turns_44 (E : EV) (Q : Sg → Int32 → Prop) (σ : Sg) (v1 : Int32) (v2 : Int32) (v3 : Int32) (v4 : Int32) (v5 : Int32) (v6 : Int32) : Prop := J E mi_X6_turns (tgM E mi_X6_turns (qI Q)) 44 [some (.ref 40), some (.int v1), some (.int v2), some (.int v3), some (.int v4), some (.int v5), some (.int v6), none, none, none, none] [] σ
def K_X6_turns_68 (E : EV) (Q : Sg → Int32 → Prop) (σ : Sg) (v1 : Int32) (v2 : Int32) (v3 : Int32) (v4 : Int32) (v5 : Int32) (v6 : Int32) : Prop := J E mi_X6_turns (tgM E mi_X6_turns (qI Q)) 68 [some (.ref 40), some (.int v1), some (.int v2), some (.int v3), some (.int v4), some (.int v5), some (.int v6), none, none, none, none] [] σ
def K_X6_turns_104 (E : EV) (Q : Sg → Int32 → Prop) (σ : Sg) (v1 : Int32) (v2 : Int32) (v3 : Int32) (v4 : Int32) (v5 : Int32) (v6 : Int32) : Prop := J E mi_X6_turns (tgM E mi_X6_turns (qI Q)) 104 [some (.ref 40), some (.int v1), some (.int v2), some (.int v3), some (.int v4), some (.int v5), some (.int v6), none, none, none, none] [] σ
def K_X6_turns_119 (E : EV) (Q : Sg → Int32 → Prop) (σ : Sg) (v1 : Int32) (v2 : Int32) (v3 : Int32) (v4 : Int32) (v5 : Int32) (v6 : Int32) (v7 : Int32) : Prop := J E mi_X6_turns (tgM E mi_X6_turns (qI Q)) 119 [some (.ref 40), some (.int v1), some (.int v2), some (.int v3), some (.int v4), some (.int v5), some (.int v6), some (.int v7), none, none, none] [] σ
def K_X6_turns_135 (E : EV) (Q : Sg → Int32 → Prop) (σ : Sg) (v1 : Int32) (v2 : Int32) (v3 : Int32) (v4 : Int32) (v5 : Int32) (v6 : Int32) (v7 : Int32) (v8 : Int32) (v9 : Int32) (v10 : Int32) : Prop := J E mi_X6_turns (tgM E mi_X6_turns (qI Q)) 135 [some (.ref 40), some (.int v1), some (.int v2), some (.int v3), some (.int v4), some (.int v5), some (.int v6), some (.int v7), some (.int v8), some (.int v9), some (.int v10)] [] σ
set_option maxRecDepth 100000 in
set_option maxHeartbeats 4000000 in
theorem B_X6_turns_44 {E : EV} {Q : Sg → Int32 → Prop} {σ : Sg} {v1 : Int32} {v2 : Int32} {v3 : Int32} {v4 : Int32} {v5 : Int32} {v6 : Int32} (h : ((((2 : Int32) * v3) ≤ v6) → K_X6_turns_68 E Q σ v1 v2 v3 v4 v5 (0 : Int32)) ∧ ((¬ ((2 : Int32) * v3) ≤ v6) → K_X6_turns_44 E Q σ v1 v2 v3 v4 (v5 * v4) (v6 + 1))) : K_X6_turns_44 E Q σ v1 v2 v3 v4 v5 v6 :=
 x_iload dX6_turns_44 rfl <|
 x_iconst dX6_turns_46 ic_2 <|
 x_iload_n dX6_turns_47 rfl <|
 x_imul dX6_turns_48 <|
 x_icmp_ge (tgt := 65) dX6_turns_49 (by decide) (fun c1 => x_iconst dX6_turns_65 ic_0 <|
 x_istore (L2 := [some (.ref 40), some (.int v1), some (.int v2), some (.int v3), some (.int v4), some (.int v5), some (.int (0 : Int32)), none, none, none, none]) dX6_turns_66 rfl (Nat.le_of_ble_eq_true rfl) <|
 (h.1 c1)) (fun c1 => x_iload dX6_turns_52 rfl <|
 x_iload dX6_turns_54 rfl <|
 x_imul dX6_turns_56 <|
 x_istore (L2 := [some (.ref 40), some (.int v1), some (.int v2), some (.int v3), some (.int v4), some (.int (v5 * v4)), some (.int v6), none, none, none, none]) dX6_turns_57 rfl (Nat.le_of_ble_eq_true rfl) <|
 x_iinc (v := (v6 + 1)) (L2 := [some (.ref 40), some (.int v1), some (.int v2), some (.int v3), some (.int v4), some (.int (v5 * v4)), some (.int (v6 + 1)), none, none, none, none]) dX6_turns_59 rfl (by rw [show Int32.ofInt (1) = 1 by decide]) rfl (Nat.le_of_ble_eq_true rfl) <|
 x_goto (tgt := 44) dX6_turns_62 (by decide) <|
 (h.2 c1))
set_option maxRecDepth 100000 in
set_option maxHeartbeats 4000000 in
theorem B_X6_turns_68 {E : EV} {Q : Sg → Int32 → Prop} {σ : Sg} {v1 : Int32} {v2 : Int32} {v3 : Int32} {v4 : Int32} {v5 : Int32} {v6 : Int32} (h : ((v5 ≤ v6) → K_X6_turns_104 E Q σ v1 v2 v3 v4 v5 (((2 : Int32) * v3) - (1 : Int32))) ∧ ((¬ v5 ≤ v6) → MetI E mi_X6_isLawByTurns [.ref 40, .int v1, .int v2, .int v3, .int v6] σ (fun τ2 r3 => vp_in v6 6561 ∧ K_X6_turns_68 E Q (sm τ2 57 v6.toNatClampNeg (vp_nar .boolean r3)) v1 v2 v3 v4 v5 (v6 + 1)))) : K_X6_turns_68 E Q σ v1 v2 v3 v4 v5 v6 :=
 x_iload dX6_turns_68 rfl <|
 x_iload dX6_turns_70 rfl <|
 x_icmp_ge (tgt := 97) dX6_turns_72 (by decide) (fun c1 => x_iconst dX6_turns_97 ic_2 <|
 x_iload_n dX6_turns_98 rfl <|
 x_imul dX6_turns_99 <|
 x_iconst dX6_turns_100 ic_1 <|
 x_isub dX6_turns_101 <|
 x_istore (L2 := [some (.ref 40), some (.int v1), some (.int v2), some (.int v3), some (.int v4), some (.int v5), some (.int (((2 : Int32) * v3) - (1 : Int32))), none, none, none, none]) dX6_turns_102 rfl (Nat.le_of_ble_eq_true rfl) <|
 (h.1 c1)) (fun c1 => x_aload_n dX6_turns_75 rfl <|
 x_getf (v := .ref 57) fl_X6_60 rfl rfl rfl dX6_turns_76 <|
 x_iload dX6_turns_79 rfl <|
 x_aload_n dX6_turns_81 rfl <|
 x_iload_n dX6_turns_82 rfl <|
 x_iload_n dX6_turns_83 rfl <|
 x_iload_n dX6_turns_84 rfl <|
 x_iload dX6_turns_85 rfl <|
 x_callV (b := 40) (As := [.int v1, .int v2, .int v3, .int v6]) ok_X6_isLawByTurns ml_X6_192 (okM (by decide)) dX6_turns_87 rfl rfl (Nat.le_of_ble_eq_true rfl) rfl rfl rfl (h.2 c1) <|
 (kI (fun τ2 r3 h4 => x_zastore rfl h4.1 dX6_turns_90 <|
 x_iinc (v := (v6 + 1)) (L2 := [some (.ref 40), some (.int v1), some (.int v2), some (.int v3), some (.int v4), some (.int v5), some (.int (v6 + 1)), none, none, none, none]) dX6_turns_91 rfl (by rw [show Int32.ofInt (1) = 1 by decide]) rfl (Nat.le_of_ble_eq_true rfl) <|
 x_goto (tgt := 68) dX6_turns_94 (by decide) <|
 h4.2)))
set_option maxRecDepth 100000 in
set_option maxHeartbeats 4000000 in
theorem B_X6_turns_104 {E : EV} {Q : Sg → Int32 → Prop} {σ : Sg} {v1 : Int32} {v2 : Int32} {v3 : Int32} {v4 : Int32} {v5 : Int32} {v6 : Int32} (h : ((v6 < 0) → ((((gm σ 57) 0) = 0) → Q σ (0 : Int32)) ∧ ((¬ ((gm σ 57) 0) = 0) → Q σ (1 : Int32))) ∧ ((¬ v6 < 0) → ¬ v4 = 0 ∧ K_X6_turns_119 E Q σ v1 v2 v3 v4 (v5 / v4) v6 (0 : Int32))) : K_X6_turns_104 E Q σ v1 v2 v3 v4 v5 v6 :=
 x_iload dX6_turns_104 rfl <|
 x_if_lt (tgt := 237) dX6_turns_106 (by decide) (fun c1 => x_aload_n dX6_turns_237 rfl <|
 x_getf (v := .ref 57) fl_X6_60 rfl rfl rfl dX6_turns_238 <|
 x_iconst dX6_turns_241 ic_0 <|
 x_zaload (v := ((gm σ 57) 0)) rfl (vpd (by decide)) rfl dX6_turns_242 <|
 x_if_eq (tgt := 250) dX6_turns_243 (by decide) (fun c2 => x_iconst dX6_turns_250 ic_0 <|
 x_ireturn rfl dX6_turns_251 ⟨_, rfl, ((h.1 c1).1 c2)⟩) (fun c2 => x_iconst dX6_turns_246 ic_1 <|
 x_goto (tgt := 251) dX6_turns_247 (by decide) <|
 x_ireturn rfl dX6_turns_251 ⟨_, rfl, ((h.1 c1).2 c2)⟩)) (fun c1 => x_iload dX6_turns_109 rfl <|
 x_iload dX6_turns_111 rfl <|
 x_idiv dX6_turns_113 (h.2 c1).1 <|
 x_istore (L2 := [some (.ref 40), some (.int v1), some (.int v2), some (.int v3), some (.int v4), some (.int (v5 / v4)), some (.int v6), none, none, none, none]) dX6_turns_114 rfl (Nat.le_of_ble_eq_true rfl) <|
 x_iconst dX6_turns_116 ic_0 <|
 x_istore (L2 := [some (.ref 40), some (.int v1), some (.int v2), some (.int v3), some (.int v4), some (.int (v5 / v4)), some (.int v6), some (.int (0 : Int32)), none, none, none]) dX6_turns_117 rfl (Nat.le_of_ble_eq_true rfl) <|
 (h.2 c1).2)
set_option maxRecDepth 100000 in
set_option maxHeartbeats 4000000 in
theorem B_X6_turns_119 {E : EV} {Q : Sg → Int32 → Prop} {σ : Sg} {v1 : Int32} {v2 : Int32} {v3 : Int32} {v4 : Int32} {v5 : Int32} {v6 : Int32} {v7 : Int32} (h : ((v5 ≤ v7) → K_X6_turns_104 E Q σ v1 v2 v3 v4 v5 (v6 + (-1))) ∧ ((¬ v5 ≤ v7) → K_X6_turns_135 E Q σ v1 v2 v3 v4 v5 v6 v7 (1 : Int32) (0 : Int32) (0 : Int32))) : K_X6_turns_119 E Q σ v1 v2 v3 v4 v5 v6 v7 :=
 x_iload dX6_turns_119 rfl <|
 x_iload dX6_turns_121 rfl <|
 x_icmp_ge (tgt := 231) dX6_turns_123 (by decide) (fun c1 => x_iinc (v := (v6 + (-1))) (L2 := [some (.ref 40), some (.int v1), some (.int v2), some (.int v3), some (.int v4), some (.int v5), some (.int (v6 + (-1))), some (.int v7), none, none, none]) dX6_turns_231 rfl (by rw [show Int32.ofInt (-1) = -1 by decide]) rfl (Nat.le_of_ble_eq_true rfl) <|
 x_goto (tgt := 104) dX6_turns_234 (by decide) <|
 x_sub (L2 := [some (.ref 40), some (.int v1), some (.int v2), some (.int v3), some (.int v4), some (.int v5), some (.int (v6 + (-1))), none, none, none, none]) ⟨rfl, rfl, rfl, rfl, rfl, rfl, rfl, trivial⟩ (h.1 c1)) (fun c1 => x_iconst dX6_turns_126 ic_1 <|
 x_istore (L2 := [some (.ref 40), some (.int v1), some (.int v2), some (.int v3), some (.int v4), some (.int v5), some (.int v6), some (.int v7), some (.int (1 : Int32)), none, none]) dX6_turns_127 rfl (Nat.le_of_ble_eq_true rfl) <|
 x_iconst dX6_turns_129 ic_0 <|
 x_istore (L2 := [some (.ref 40), some (.int v1), some (.int v2), some (.int v3), some (.int v4), some (.int v5), some (.int v6), some (.int v7), some (.int (1 : Int32)), some (.int (0 : Int32)), none]) dX6_turns_130 rfl (Nat.le_of_ble_eq_true rfl) <|
 x_iconst dX6_turns_132 ic_0 <|
 x_istore (L2 := [some (.ref 40), some (.int v1), some (.int v2), some (.int v3), some (.int v4), some (.int v5), some (.int v6), some (.int v7), some (.int (1 : Int32)), some (.int (0 : Int32)), some (.int (0 : Int32))]) dX6_turns_133 rfl (Nat.le_of_ble_eq_true rfl) <|
 (h.2 c1))
set_option maxRecDepth 100000 in
set_option maxHeartbeats 4000000 in
theorem B_X6_turns_135 {E : EV} {Q : Sg → Int32 → Prop} {σ : Sg} {v1 : Int32} {v2 : Int32} {v3 : Int32} {v4 : Int32} {v5 : Int32} {v6 : Int32} {v7 : Int32} {v8 : Int32} {v9 : Int32} {v10 : Int32} (h : ((v4 ≤ v10) → ((¬ (v6 - v6 / (2 : Int32) * (2 : Int32)) = 0) → vp_in v7 6561 ∧ K_X6_turns_119 E Q (sm σ 57 v7.toNatClampNeg (vp_nar .boolean v8)) v1 v2 v3 v4 v5 v6 (v7 + 1)) ∧ (((v6 - v6 / (2 : Int32) * (2 : Int32)) = 0) → vp_in v7 6561 ∧ K_X6_turns_119 E Q (sm σ 57 v7.toNatClampNeg (vp_nar .boolean v9)) v1 v2 v3 v4 v5 v6 (v7 + 1))) ∧ ((¬ v4 ≤ v10) → ((v8 = 0) → ((¬ v9 = 0) → K_X6_turns_135 E Q σ v1 v2 v3 v4 v5 v6 v7 (0 : Int32) (1 : Int32) (v10 + 1)) ∧ ((v9 = 0) → vp_in ((v4 * v7) + v10) 6561 ∧ ((((gm σ 57) ((v4 * v7) + v10).toNatClampNeg) = 0) → K_X6_turns_135 E Q σ v1 v2 v3 v4 v5 v6 v7 (0 : Int32) (0 : Int32) (v10 + 1)) ∧ ((¬ ((gm σ 57) ((v4 * v7) + v10).toNatClampNeg) = 0) → K_X6_turns_135 E Q σ v1 v2 v3 v4 v5 v6 v7 (0 : Int32) (1 : Int32) (v10 + 1)))) ∧ ((¬ v8 = 0) → vp_in ((v4 * v7) + v10) 6561 ∧ ((((gm σ 57) ((v4 * v7) + v10).toNatClampNeg) = 0) → ((¬ v9 = 0) → K_X6_turns_135 E Q σ v1 v2 v3 v4 v5 v6 v7 (0 : Int32) (1 : Int32) (v10 + 1)) ∧ ((v9 = 0) → K_X6_turns_135 E Q σ v1 v2 v3 v4 v5 v6 v7 (0 : Int32) (0 : Int32) (v10 + 1))) ∧ ((¬ ((gm σ 57) ((v4 * v7) + v10).toNatClampNeg) = 0) → ((¬ v9 = 0) → K_X6_turns_135 E Q σ v1 v2 v3 v4 v5 v6 v7 (1 : Int32) (1 : Int32) (v10 + 1)) ∧ ((v9 = 0) → K_X6_turns_135 E Q σ v1 v2 v3 v4 v5 v6 v7 (1 : Int32) (1 : Int32) (v10 + 1)))))) : K_X6_turns_135 E Q σ v1 v2 v3 v4 v5 v6 v7 v8 v9 v10 :=
 x_iload dX6_turns_135 rfl <|
 x_iload dX6_turns_137 rfl <|
 x_icmp_ge (tgt := 204) dX6_turns_139 (by decide) (fun c1 => x_aload_n dX6_turns_204 rfl <|
 x_getf (v := .ref 57) fl_X6_60 rfl rfl rfl dX6_turns_205 <|
 x_iload dX6_turns_208 rfl <|
 x_iload dX6_turns_210 rfl <|
 x_iconst dX6_turns_212 ic_2 <|
 x_irem dX6_turns_213 (by decide) <|
 x_if_ne (tgt := 222) dX6_turns_214 (by decide) (fun c2 => x_iload dX6_turns_222 rfl <|
 x_zastore rfl ((h.1 c1).1 c2).1 dX6_turns_224 <|
 x_iinc (v := (v7 + 1)) (L2 := [some (.ref 40), some (.int v1), some (.int v2), some (.int v3), some (.int v4), some (.int v5), some (.int v6), some (.int (v7 + 1)), some (.int v8), some (.int v9), some (.int v10)]) dX6_turns_225 rfl (by rw [show Int32.ofInt (1) = 1 by decide]) rfl (Nat.le_of_ble_eq_true rfl) <|
 x_goto (tgt := 119) dX6_turns_228 (by decide) <|
 x_sub (L2 := [some (.ref 40), some (.int v1), some (.int v2), some (.int v3), some (.int v4), some (.int v5), some (.int v6), some (.int (v7 + 1)), none, none, none]) ⟨rfl, rfl, rfl, rfl, rfl, rfl, rfl, rfl, trivial⟩ ((h.1 c1).1 c2).2) (fun c2 => x_iload dX6_turns_217 rfl <|
 x_goto (tgt := 224) dX6_turns_219 (by decide) <|
 x_zastore rfl ((h.1 c1).2 c2).1 dX6_turns_224 <|
 x_iinc (v := (v7 + 1)) (L2 := [some (.ref 40), some (.int v1), some (.int v2), some (.int v3), some (.int v4), some (.int v5), some (.int v6), some (.int (v7 + 1)), some (.int v8), some (.int v9), some (.int v10)]) dX6_turns_225 rfl (by rw [show Int32.ofInt (1) = 1 by decide]) rfl (Nat.le_of_ble_eq_true rfl) <|
 x_goto (tgt := 119) dX6_turns_228 (by decide) <|
 x_sub (L2 := [some (.ref 40), some (.int v1), some (.int v2), some (.int v3), some (.int v4), some (.int v5), some (.int v6), some (.int (v7 + 1)), none, none, none]) ⟨rfl, rfl, rfl, rfl, rfl, rfl, rfl, rfl, trivial⟩ ((h.1 c1).2 c2).2)) (fun c1 => x_iload dX6_turns_142 rfl <|
 x_if_eq (tgt := 167) dX6_turns_144 (by decide) (fun c3 => x_iconst dX6_turns_167 ic_0 <|
 x_istore (L2 := [some (.ref 40), some (.int v1), some (.int v2), some (.int v3), some (.int v4), some (.int v5), some (.int v6), some (.int v7), some (.int (0 : Int32)), some (.int v9), some (.int v10)]) dX6_turns_168 rfl (Nat.le_of_ble_eq_true rfl) <|
 x_iload dX6_turns_170 rfl <|
 x_if_ne (tgt := 191) dX6_turns_172 (by decide) (fun c4 => x_iconst dX6_turns_191 ic_1 <|
 x_goto (tgt := 196) dX6_turns_192 (by decide) <|
 x_istore (L2 := [some (.ref 40), some (.int v1), some (.int v2), some (.int v3), some (.int v4), some (.int v5), some (.int v6), some (.int v7), some (.int (0 : Int32)), some (.int (1 : Int32)), some (.int v10)]) dX6_turns_196 rfl (Nat.le_of_ble_eq_true rfl) <|
 x_iinc (v := (v10 + 1)) (L2 := [some (.ref 40), some (.int v1), some (.int v2), some (.int v3), some (.int v4), some (.int v5), some (.int v6), some (.int v7), some (.int (0 : Int32)), some (.int (1 : Int32)), some (.int (v10 + 1))]) dX6_turns_198 rfl (by rw [show Int32.ofInt (1) = 1 by decide]) rfl (Nat.le_of_ble_eq_true rfl) <|
 x_goto (tgt := 135) dX6_turns_201 (by decide) <|
 (((h.2 c1).1 c3).1 c4)) (fun c4 => x_aload_n dX6_turns_175 rfl <|
 x_getf (v := .ref 57) fl_X6_60 rfl rfl rfl dX6_turns_176 <|
 x_iload dX6_turns_179 rfl <|
 x_iload dX6_turns_181 rfl <|
 x_imul dX6_turns_183 <|
 x_iload dX6_turns_184 rfl <|
 x_iadd dX6_turns_186 <|
 x_zaload (v := ((gm σ 57) ((v4 * v7) + v10).toNatClampNeg)) rfl (((h.2 c1).1 c3).2 c4).1 rfl dX6_turns_187 <|
 x_if_eq (tgt := 195) dX6_turns_188 (by decide) (fun c5 => x_iconst dX6_turns_195 ic_0 <|
 x_istore (L2 := [some (.ref 40), some (.int v1), some (.int v2), some (.int v3), some (.int v4), some (.int v5), some (.int v6), some (.int v7), some (.int (0 : Int32)), some (.int (0 : Int32)), some (.int v10)]) dX6_turns_196 rfl (Nat.le_of_ble_eq_true rfl) <|
 x_iinc (v := (v10 + 1)) (L2 := [some (.ref 40), some (.int v1), some (.int v2), some (.int v3), some (.int v4), some (.int v5), some (.int v6), some (.int v7), some (.int (0 : Int32)), some (.int (0 : Int32)), some (.int (v10 + 1))]) dX6_turns_198 rfl (by rw [show Int32.ofInt (1) = 1 by decide]) rfl (Nat.le_of_ble_eq_true rfl) <|
 x_goto (tgt := 135) dX6_turns_201 (by decide) <|
 ((((h.2 c1).1 c3).2 c4).2.1 c5)) (fun c5 => x_iconst dX6_turns_191 ic_1 <|
 x_goto (tgt := 196) dX6_turns_192 (by decide) <|
 x_istore (L2 := [some (.ref 40), some (.int v1), some (.int v2), some (.int v3), some (.int v4), some (.int v5), some (.int v6), some (.int v7), some (.int (0 : Int32)), some (.int (1 : Int32)), some (.int v10)]) dX6_turns_196 rfl (Nat.le_of_ble_eq_true rfl) <|
 x_iinc (v := (v10 + 1)) (L2 := [some (.ref 40), some (.int v1), some (.int v2), some (.int v3), some (.int v4), some (.int v5), some (.int v6), some (.int v7), some (.int (0 : Int32)), some (.int (1 : Int32)), some (.int (v10 + 1))]) dX6_turns_198 rfl (by rw [show Int32.ofInt (1) = 1 by decide]) rfl (Nat.le_of_ble_eq_true rfl) <|
 x_goto (tgt := 135) dX6_turns_201 (by decide) <|
 ((((h.2 c1).1 c3).2 c4).2.2 c5)))) (fun c3 => x_aload_n dX6_turns_147 rfl <|
 x_getf (v := .ref 57) fl_X6_60 rfl rfl rfl dX6_turns_148 <|
 x_iload dX6_turns_151 rfl <|
 x_iload dX6_turns_153 rfl <|
 x_imul dX6_turns_155 <|
 x_iload dX6_turns_156 rfl <|
 x_iadd dX6_turns_158 <|
 x_zaload (v := ((gm σ 57) ((v4 * v7) + v10).toNatClampNeg)) rfl ((h.2 c1).2 c3).1 rfl dX6_turns_159 <|
 x_if_eq (tgt := 167) dX6_turns_160 (by decide) (fun c6 => x_iconst dX6_turns_167 ic_0 <|
 x_istore (L2 := [some (.ref 40), some (.int v1), some (.int v2), some (.int v3), some (.int v4), some (.int v5), some (.int v6), some (.int v7), some (.int (0 : Int32)), some (.int v9), some (.int v10)]) dX6_turns_168 rfl (Nat.le_of_ble_eq_true rfl) <|
 x_iload dX6_turns_170 rfl <|
 x_if_ne (tgt := 191) dX6_turns_172 (by decide) (fun c7 => x_iconst dX6_turns_191 ic_1 <|
 x_goto (tgt := 196) dX6_turns_192 (by decide) <|
 x_istore (L2 := [some (.ref 40), some (.int v1), some (.int v2), some (.int v3), some (.int v4), some (.int v5), some (.int v6), some (.int v7), some (.int (0 : Int32)), some (.int (1 : Int32)), some (.int v10)]) dX6_turns_196 rfl (Nat.le_of_ble_eq_true rfl) <|
 x_iinc (v := (v10 + 1)) (L2 := [some (.ref 40), some (.int v1), some (.int v2), some (.int v3), some (.int v4), some (.int v5), some (.int v6), some (.int v7), some (.int (0 : Int32)), some (.int (1 : Int32)), some (.int (v10 + 1))]) dX6_turns_198 rfl (by rw [show Int32.ofInt (1) = 1 by decide]) rfl (Nat.le_of_ble_eq_true rfl) <|
 x_goto (tgt := 135) dX6_turns_201 (by decide) <|
 ((((h.2 c1).2 c3).2.1 c6).1 c7)) (fun c7 => x_aload_n dX6_turns_175 rfl <|
 x_getf (v := .ref 57) fl_X6_60 rfl rfl rfl dX6_turns_176 <|
 x_iload dX6_turns_179 rfl <|
 x_iload dX6_turns_181 rfl <|
 x_imul dX6_turns_183 <|
 x_iload dX6_turns_184 rfl <|
 x_iadd dX6_turns_186 <|
 x_zaload (v := ((gm σ 57) ((v4 * v7) + v10).toNatClampNeg)) rfl ((h.2 c1).2 c3).1 rfl dX6_turns_187 <|
 x_if_eq (tgt := 195) dX6_turns_188 (by decide) (fun _ => x_iconst dX6_turns_195 ic_0 <|
 x_istore (L2 := [some (.ref 40), some (.int v1), some (.int v2), some (.int v3), some (.int v4), some (.int v5), some (.int v6), some (.int v7), some (.int (0 : Int32)), some (.int (0 : Int32)), some (.int v10)]) dX6_turns_196 rfl (Nat.le_of_ble_eq_true rfl) <|
 x_iinc (v := (v10 + 1)) (L2 := [some (.ref 40), some (.int v1), some (.int v2), some (.int v3), some (.int v4), some (.int v5), some (.int v6), some (.int v7), some (.int (0 : Int32)), some (.int (0 : Int32)), some (.int (v10 + 1))]) dX6_turns_198 rfl (by rw [show Int32.ofInt (1) = 1 by decide]) rfl (Nat.le_of_ble_eq_true rfl) <|
 x_goto (tgt := 135) dX6_turns_201 (by decide) <|
 ((((h.2 c1).2 c3).2.1 c6).2 c7)) (fun c => absurd c6 c))) (fun c6 => x_iconst dX6_turns_163 ic_1 <|
 x_goto (tgt := 168) dX6_turns_164 (by decide) <|
 x_istore (L2 := [some (.ref 40), some (.int v1), some (.int v2), some (.int v3), some (.int v4), some (.int v5), some (.int v6), some (.int v7), some (.int (1 : Int32)), some (.int v9), some (.int v10)]) dX6_turns_168 rfl (Nat.le_of_ble_eq_true rfl) <|
 x_iload dX6_turns_170 rfl <|
 x_if_ne (tgt := 191) dX6_turns_172 (by decide) (fun c8 => x_iconst dX6_turns_191 ic_1 <|
 x_goto (tgt := 196) dX6_turns_192 (by decide) <|
 x_istore (L2 := [some (.ref 40), some (.int v1), some (.int v2), some (.int v3), some (.int v4), some (.int v5), some (.int v6), some (.int v7), some (.int (1 : Int32)), some (.int (1 : Int32)), some (.int v10)]) dX6_turns_196 rfl (Nat.le_of_ble_eq_true rfl) <|
 x_iinc (v := (v10 + 1)) (L2 := [some (.ref 40), some (.int v1), some (.int v2), some (.int v3), some (.int v4), some (.int v5), some (.int v6), some (.int v7), some (.int (1 : Int32)), some (.int (1 : Int32)), some (.int (v10 + 1))]) dX6_turns_198 rfl (by rw [show Int32.ofInt (1) = 1 by decide]) rfl (Nat.le_of_ble_eq_true rfl) <|
 x_goto (tgt := 135) dX6_turns_201 (by decide) <|
 ((((h.2 c1).2 c3).2.2 c6).1 c8)) (fun c8 => x_aload_n dX6_turns_175 rfl <|
 x_getf (v := .ref 57) fl_X6_60 rfl rfl rfl dX6_turns_176 <|
 x_iload dX6_turns_179 rfl <|
 x_iload dX6_turns_181 rfl <|
 x_imul dX6_turns_183 <|
 x_iload dX6_turns_184 rfl <|
 x_iadd dX6_turns_186 <|
 x_zaload (v := ((gm σ 57) ((v4 * v7) + v10).toNatClampNeg)) rfl ((h.2 c1).2 c3).1 rfl dX6_turns_187 <|
 x_if_eq (tgt := 195) dX6_turns_188 (by decide) (fun c => absurd c c6) (fun _ => x_iconst dX6_turns_191 ic_1 <|
 x_goto (tgt := 196) dX6_turns_192 (by decide) <|
 x_istore (L2 := [some (.ref 40), some (.int v1), some (.int v2), some (.int v3), some (.int v4), some (.int v5), some (.int v6), some (.int v7), some (.int (1 : Int32)), some (.int (1 : Int32)), some (.int v10)]) dX6_turns_196 rfl (Nat.le_of_ble_eq_true rfl) <|
 x_iinc (v := (v10 + 1)) (L2 := [some (.ref 40), some (.int v1), some (.int v2), some (.int v3), some (.int v4), some (.int v5), some (.int v6), some (.int v7), some (.int (1 : Int32)), some (.int (1 : Int32)), some (.int (v10 + 1))]) dX6_turns_198 rfl (by rw [show Int32.ofInt (1) = 1 by decide]) rfl (Nat.le_of_ble_eq_true rfl) <|
 x_goto (tgt := 135) dX6_turns_201 (by decide) <|
 ((((h.2 c1).2 c3).2.2 c6).2 c8))))))
set_option maxRecDepth 100000 in
set_option maxHeartbeats 4000000 in
theorem M_X6_turns {E : EV} {Q : Sg → Int32 → Prop} {σ : Sg} {a1 : Int32} {a2 : Int32} {a3 : Int32} (h : MetI E mi_X6_isThing [.int a1] σ (fun τ1 r2 => ((r2 = 0) → Q τ1 (-1 : Int32)) ∧ ((¬ r2 = 0) → MetI E mi_X6_in [.int a2, .int (0 : Int32), .int (99 : Int32)] τ1 (fun τ5 r6 => ((r6 = 0) → Q τ5 (-1 : Int32)) ∧ ((¬ r6 = 0) → MetI E mi_X6_in [.int a3, .int (1 : Int32), .int (2 : Int32)] τ5 (fun τ9 r10 => ((¬ r10 = 0) → K_X6_turns_44 E Q τ9 a1 a2 a3 (((gm τ9 42) 0) + (1 : Int32)) (1 : Int32) (0 : Int32)) ∧ ((r10 = 0) → Q τ9 (-1 : Int32)))))))) : MetI E mi_X6_turns [.ref 40, .int a1, .int a2, .int a3] σ Q :=
 met_of (L := [some (.ref 40), some (.int a1), some (.int a2), some (.int a3), none, none, none, none, none, none, none]) pn_X6 rfl (Nat.le_of_ble_eq_true rfl) <|
 x_iload_n dX6_turns_0 rfl <|
 x_callS (As := [.int a1]) ok_X6_isThing ml_X6_169 (okM (by decide)) dX6_turns_1 rfl rfl (Nat.le_of_ble_eq_true rfl) h <|
 (kI (fun τ1 r2 h3 => x_if_eq (tgt := 26) dX6_turns_4 (by decide) (fun c4 => x_iconst dX6_turns_26 ic_m1 <|
 x_ireturn rfl dX6_turns_27 ⟨_, rfl, (h3.1 c4)⟩) (fun c4 => x_iload_n dX6_turns_7 rfl <|
 x_iconst dX6_turns_8 ic_0 <|
 x_bipush dX6_turns_9 bp_99 <|
 x_callS (As := [.int a2, .int (0 : Int32), .int (99 : Int32)]) ok_X6_in ml_X6_63 (okM (by decide)) dX6_turns_11 rfl rfl (Nat.le_of_ble_eq_true rfl) (h3.2 c4) <|
 (kI (fun τ5 r6 h7 => x_if_eq (tgt := 26) dX6_turns_14 (by decide) (fun c8 => x_iconst dX6_turns_26 ic_m1 <|
 x_ireturn rfl dX6_turns_27 ⟨_, rfl, (h7.1 c8)⟩) (fun c8 => x_iload_n dX6_turns_17 rfl <|
 x_iconst dX6_turns_18 ic_1 <|
 x_iconst dX6_turns_19 ic_2 <|
 x_callS (As := [.int a3, .int (1 : Int32), .int (2 : Int32)]) ok_X6_in ml_X6_63 (okM (by decide)) dX6_turns_20 rfl rfl (Nat.le_of_ble_eq_true rfl) (h7.2 c8) <|
 (kI (fun τ9 r10 h11 => x_if_ne (tgt := 28) dX6_turns_23 (by decide) (fun c12 => x_aload_n dX6_turns_28 rfl <|
 x_getf (v := .ref 42) fl_X6_13 rfl rfl rfl dX6_turns_29 <|
 x_iconst dX6_turns_32 ic_0 <|
 x_iaload (v := ((gm τ9 42) 0)) rfl (vpd (by decide)) rfl dX6_turns_33 <|
 x_iconst dX6_turns_34 ic_1 <|
 x_iadd dX6_turns_35 <|
 x_istore (L2 := [some (.ref 40), some (.int a1), some (.int a2), some (.int a3), some (.int (((gm τ9 42) 0) + (1 : Int32))), none, none, none, none, none, none]) dX6_turns_36 rfl (Nat.le_of_ble_eq_true rfl) <|
 x_iconst dX6_turns_38 ic_1 <|
 x_istore (L2 := [some (.ref 40), some (.int a1), some (.int a2), some (.int a3), some (.int (((gm τ9 42) 0) + (1 : Int32))), some (.int (1 : Int32)), none, none, none, none, none]) dX6_turns_39 rfl (Nat.le_of_ble_eq_true rfl) <|
 x_iconst dX6_turns_41 ic_0 <|
 x_istore (L2 := [some (.ref 40), some (.int a1), some (.int a2), some (.int a3), some (.int (((gm τ9 42) 0) + (1 : Int32))), some (.int (1 : Int32)), some (.int (0 : Int32)), none, none, none, none]) dX6_turns_42 rfl (Nat.le_of_ble_eq_true rfl) <|
 (h11.1 c12)) (fun c12 => x_iconst dX6_turns_26 ic_m1 <|
 x_ireturn rfl dX6_turns_27 ⟨_, rfl, (h11.2 c12)⟩)))))))))
def K_X6_keepAt_29 (E : EV) (Q : Sg → Int32 → Prop) (σ : Sg) (v1 : Int32) (v2 : Int32) (v3 : Int32) (v4 : Int32) (v5 : Int32) : Prop := J E mi_X6_keepAt (tgM E mi_X6_keepAt (qI Q)) 29 [some (.ref 40), some (.int v1), some (.int v2), some (.int v3), some (.int v4), some (.int v5), none, none] [] σ
def K_X6_keepAt_66 (E : EV) (Q : Sg → Int32 → Prop) (σ : Sg) (v1 : Int32) (v2 : Int32) (v3 : Int32) (v4 : Int32) (v5 : Int32) (v6 : Int32) (v7 : Int32) : Prop := J E mi_X6_keepAt (tgM E mi_X6_keepAt (qI Q)) 66 [some (.ref 40), some (.int v1), some (.int v2), some (.int v3), some (.int v4), some (.int v5), some (.int v6), some (.int v7)] [] σ
set_option maxRecDepth 100000 in
set_option maxHeartbeats 4000000 in
theorem B_X6_keepAt_29 {E : EV} {Q : Sg → Int32 → Prop} {σ : Sg} {v1 : Int32} {v2 : Int32} {v3 : Int32} {v4 : Int32} {v5 : Int32} (h : (((4 : Int32) ≤ v5) → Q σ v3) ∧ ((¬ (4 : Int32) ≤ v5) → MetV E mi_X6_plain [.ref 40] σ (fun τ2 => MetV E mi_X6_go [.ref 40, .int (0 : Int32)] (si (si (si τ2 4026 v2) 4027 v1) 4028 v5) (fun τ4 => K_X6_keepAt_66 E Q τ4 v1 v2 v3 v4 v5 (0 : Int32) (0 : Int32))))) : K_X6_keepAt_29 E Q σ v1 v2 v3 v4 v5 :=
 x_iload dX6_keepAt_29 rfl <|
 x_iconst dX6_keepAt_31 ic_4 <|
 x_icmp_ge (tgt := 138) dX6_keepAt_32 (by decide) (fun c1 => x_iload_n dX6_keepAt_138 rfl <|
 x_ireturn rfl dX6_keepAt_139 ⟨_, rfl, (h.1 c1)⟩) (fun c1 => x_aload_n dX6_keepAt_35 rfl <|
 x_callV (b := 40) (As := []) ok_X6_plain ml_X6_163 (okM (by decide)) dX6_keepAt_36 rfl rfl (Nat.le_of_ble_eq_true rfl) rfl rfl rfl (h.2 c1) <|
 (kV (fun τ2 h3 => x_aload_n dX6_keepAt_39 rfl <|
 x_iload_n dX6_keepAt_40 rfl <|
 x_puti fp_X6_124 rfl rfl dX6_keepAt_41 <|
 x_aload_n dX6_keepAt_44 rfl <|
 x_iload_n dX6_keepAt_45 rfl <|
 x_puti fp_X6_127 rfl rfl dX6_keepAt_46 <|
 x_aload_n dX6_keepAt_49 rfl <|
 x_iload dX6_keepAt_50 rfl <|
 x_puti fp_X6_147 rfl rfl dX6_keepAt_52 <|
 x_aload_n dX6_keepAt_55 rfl <|
 x_iconst dX6_keepAt_56 ic_0 <|
 x_callV (b := 40) (As := [.int (0 : Int32)]) ok_X6_go ml_X6_166 (okM (by decide)) dX6_keepAt_57 rfl rfl (Nat.le_of_ble_eq_true rfl) rfl rfl rfl h3 <|
 (kV (fun τ4 h5 => x_iconst dX6_keepAt_60 ic_0 <|
 x_istore (L2 := [some (.ref 40), some (.int v1), some (.int v2), some (.int v3), some (.int v4), some (.int v5), some (.int (0 : Int32)), none]) dX6_keepAt_61 rfl (Nat.le_of_ble_eq_true rfl) <|
 x_iconst dX6_keepAt_63 ic_0 <|
 x_istore (L2 := [some (.ref 40), some (.int v1), some (.int v2), some (.int v3), some (.int v4), some (.int v5), some (.int (0 : Int32)), some (.int (0 : Int32))]) dX6_keepAt_64 rfl (Nat.le_of_ble_eq_true rfl) <|
 h5)))))
set_option maxRecDepth 100000 in
set_option maxHeartbeats 4000000 in
theorem B_X6_keepAt_66 {E : EV} {Q : Sg → Int32 → Prop} {σ : Sg} {v1 : Int32} {v2 : Int32} {v3 : Int32} {v4 : Int32} {v5 : Int32} {v6 : Int32} {v7 : Int32} (h : (((4 : Int32) ≤ v7) → ((v4 ≤ v6) → K_X6_keepAt_29 E Q σ v1 v2 v3 v4 (v5 + 1)) ∧ ((¬ v4 ≤ v6) → K_X6_keepAt_29 E Q σ v1 v2 v5 v6 (v5 + 1))) ∧ ((¬ (4 : Int32) ≤ v7) → vp_in (((4 : Int32) * v1) + v7) 32 ∧ ((((gm σ 52) (((4 : Int32) * v1) + v7).toNatClampNeg) = 0) → K_X6_keepAt_66 E Q σ v1 v2 v3 v4 v5 (v6 + (0 : Int32)) (v7 + 1)) ∧ ((¬ ((gm σ 52) (((4 : Int32) * v1) + v7).toNatClampNeg) = 0) → K_X6_keepAt_66 E Q σ v1 v2 v3 v4 v5 (v6 + (1 : Int32)) (v7 + 1)))) : K_X6_keepAt_66 E Q σ v1 v2 v3 v4 v5 v6 v7 :=
 x_iload dX6_keepAt_66 rfl <|
 x_iconst dX6_keepAt_68 ic_4 <|
 x_icmp_ge (tgt := 102) dX6_keepAt_69 (by decide) (fun c1 => x_iload dX6_keepAt_102 rfl <|
 x_iload dX6_keepAt_104 rfl <|
 x_icmp_ge (tgt := 114) dX6_keepAt_106 (by decide) (fun c2 => x_iload_n dX6_keepAt_114 rfl <|
 x_istore_n (L2 := [some (.ref 40), some (.int v1), some (.int v2), some (.int v3), some (.int v4), some (.int v5), some (.int v6), some (.int v7)]) dX6_keepAt_115 rfl (Nat.le_of_ble_eq_true rfl) <|
 x_iload dX6_keepAt_116 rfl <|
 x_iload dX6_keepAt_118 rfl <|
 x_icmp_ge (tgt := 128) dX6_keepAt_120 (by decide) (fun _ => x_iload dX6_keepAt_128 rfl <|
 x_istore (L2 := [some (.ref 40), some (.int v1), some (.int v2), some (.int v3), some (.int v4), some (.int v5), some (.int v6), some (.int v7)]) dX6_keepAt_130 rfl (Nat.le_of_ble_eq_true rfl) <|
 x_iinc (v := (v5 + 1)) (L2 := [some (.ref 40), some (.int v1), some (.int v2), some (.int v3), some (.int v4), some (.int (v5 + 1)), some (.int v6), some (.int v7)]) dX6_keepAt_132 rfl (by rw [show Int32.ofInt (1) = 1 by decide]) rfl (Nat.le_of_ble_eq_true rfl) <|
 x_goto (tgt := 29) dX6_keepAt_135 (by decide) <|
 x_sub (L2 := [some (.ref 40), some (.int v1), some (.int v2), some (.int v3), some (.int v4), some (.int (v5 + 1)), none, none]) ⟨rfl, rfl, rfl, rfl, rfl, rfl, trivial⟩ ((h.1 c1).1 c2)) (fun c => absurd c2 c)) (fun c2 => x_iload dX6_keepAt_109 rfl <|
 x_goto (tgt := 115) dX6_keepAt_111 (by decide) <|
 x_istore_n (L2 := [some (.ref 40), some (.int v1), some (.int v2), some (.int v5), some (.int v4), some (.int v5), some (.int v6), some (.int v7)]) dX6_keepAt_115 rfl (Nat.le_of_ble_eq_true rfl) <|
 x_iload dX6_keepAt_116 rfl <|
 x_iload dX6_keepAt_118 rfl <|
 x_icmp_ge (tgt := 128) dX6_keepAt_120 (by decide) (fun c => absurd c c2) (fun _ => x_iload dX6_keepAt_123 rfl <|
 x_goto (tgt := 130) dX6_keepAt_125 (by decide) <|
 x_istore (L2 := [some (.ref 40), some (.int v1), some (.int v2), some (.int v5), some (.int v6), some (.int v5), some (.int v6), some (.int v7)]) dX6_keepAt_130 rfl (Nat.le_of_ble_eq_true rfl) <|
 x_iinc (v := (v5 + 1)) (L2 := [some (.ref 40), some (.int v1), some (.int v2), some (.int v5), some (.int v6), some (.int (v5 + 1)), some (.int v6), some (.int v7)]) dX6_keepAt_132 rfl (by rw [show Int32.ofInt (1) = 1 by decide]) rfl (Nat.le_of_ble_eq_true rfl) <|
 x_goto (tgt := 29) dX6_keepAt_135 (by decide) <|
 x_sub (L2 := [some (.ref 40), some (.int v1), some (.int v2), some (.int v5), some (.int v6), some (.int (v5 + 1)), none, none]) ⟨rfl, rfl, rfl, rfl, rfl, rfl, trivial⟩ ((h.1 c1).2 c2)))) (fun c1 => x_iload dX6_keepAt_72 rfl <|
 x_aload_n dX6_keepAt_74 rfl <|
 x_getf (v := .ref 52) fl_X6_45 rfl rfl rfl dX6_keepAt_75 <|
 x_iconst dX6_keepAt_78 ic_4 <|
 x_iload_n dX6_keepAt_79 rfl <|
 x_imul dX6_keepAt_80 <|
 x_iload dX6_keepAt_81 rfl <|
 x_iadd dX6_keepAt_83 <|
 x_iaload (v := ((gm σ 52) (((4 : Int32) * v1) + v7).toNatClampNeg)) rfl (h.2 c1).1 rfl dX6_keepAt_84 <|
 x_if_eq (tgt := 92) dX6_keepAt_85 (by decide) (fun c3 => x_iconst dX6_keepAt_92 ic_0 <|
 x_iadd dX6_keepAt_93 <|
 x_istore (L2 := [some (.ref 40), some (.int v1), some (.int v2), some (.int v3), some (.int v4), some (.int v5), some (.int (v6 + (0 : Int32))), some (.int v7)]) dX6_keepAt_94 rfl (Nat.le_of_ble_eq_true rfl) <|
 x_iinc (v := (v7 + 1)) (L2 := [some (.ref 40), some (.int v1), some (.int v2), some (.int v3), some (.int v4), some (.int v5), some (.int (v6 + (0 : Int32))), some (.int (v7 + 1))]) dX6_keepAt_96 rfl (by rw [show Int32.ofInt (1) = 1 by decide]) rfl (Nat.le_of_ble_eq_true rfl) <|
 x_goto (tgt := 66) dX6_keepAt_99 (by decide) <|
 ((h.2 c1).2.1 c3)) (fun c3 => x_iconst dX6_keepAt_88 ic_1 <|
 x_goto (tgt := 93) dX6_keepAt_89 (by decide) <|
 x_iadd dX6_keepAt_93 <|
 x_istore (L2 := [some (.ref 40), some (.int v1), some (.int v2), some (.int v3), some (.int v4), some (.int v5), some (.int (v6 + (1 : Int32))), some (.int v7)]) dX6_keepAt_94 rfl (Nat.le_of_ble_eq_true rfl) <|
 x_iinc (v := (v7 + 1)) (L2 := [some (.ref 40), some (.int v1), some (.int v2), some (.int v3), some (.int v4), some (.int v5), some (.int (v6 + (1 : Int32))), some (.int (v7 + 1))]) dX6_keepAt_96 rfl (by rw [show Int32.ofInt (1) = 1 by decide]) rfl (Nat.le_of_ble_eq_true rfl) <|
 x_goto (tgt := 66) dX6_keepAt_99 (by decide) <|
 ((h.2 c1).2.2 c3)))
set_option maxRecDepth 100000 in
set_option maxHeartbeats 4000000 in
theorem M_X6_keepAt {E : EV} {Q : Sg → Int32 → Prop} {σ : Sg} {a1 : Int32} {a2 : Int32} (h : MetI E mi_X6_isOne [.ref 40, .int a1] σ (fun τ1 r2 => ((r2 = 0) → Q τ1 (-1 : Int32)) ∧ ((¬ r2 = 0) → MetI E mi_X6_in [.int a2, .int (0 : Int32), .int (99 : Int32)] τ1 (fun τ5 r6 => ((¬ r6 = 0) → K_X6_keepAt_29 E Q τ5 a1 a2 (0 : Int32) (9 : Int32) (0 : Int32)) ∧ ((r6 = 0) → Q τ5 (-1 : Int32)))))) : MetI E mi_X6_keepAt [.ref 40, .int a1, .int a2] σ Q :=
 met_of (L := [some (.ref 40), some (.int a1), some (.int a2), none, none, none, none, none]) pn_X6 rfl (Nat.le_of_ble_eq_true rfl) <|
 x_aload_n dX6_keepAt_0 rfl <|
 x_iload_n dX6_keepAt_1 rfl <|
 x_callV (b := 40) (As := [.int a1]) ok_X6_isOne ml_X6_117 (okM (by decide)) dX6_keepAt_2 rfl rfl (Nat.le_of_ble_eq_true rfl) rfl rfl rfl h <|
 (kI (fun τ1 r2 h3 => x_if_eq (tgt := 18) dX6_keepAt_5 (by decide) (fun c4 => x_iconst dX6_keepAt_18 ic_m1 <|
 x_ireturn rfl dX6_keepAt_19 ⟨_, rfl, (h3.1 c4)⟩) (fun c4 => x_iload_n dX6_keepAt_8 rfl <|
 x_iconst dX6_keepAt_9 ic_0 <|
 x_bipush dX6_keepAt_10 bp_99 <|
 x_callS (As := [.int a2, .int (0 : Int32), .int (99 : Int32)]) ok_X6_in ml_X6_63 (okM (by decide)) dX6_keepAt_12 rfl rfl (Nat.le_of_ble_eq_true rfl) (h3.2 c4) <|
 (kI (fun τ5 r6 h7 => x_if_ne (tgt := 20) dX6_keepAt_15 (by decide) (fun c8 => x_iconst dX6_keepAt_20 ic_0 <|
 x_istore_n (L2 := [some (.ref 40), some (.int a1), some (.int a2), some (.int (0 : Int32)), none, none, none, none]) dX6_keepAt_21 rfl (Nat.le_of_ble_eq_true rfl) <|
 x_bipush dX6_keepAt_22 bp_9 <|
 x_istore (L2 := [some (.ref 40), some (.int a1), some (.int a2), some (.int (0 : Int32)), some (.int (9 : Int32)), none, none, none]) dX6_keepAt_24 rfl (Nat.le_of_ble_eq_true rfl) <|
 x_iconst dX6_keepAt_26 ic_0 <|
 x_istore (L2 := [some (.ref 40), some (.int a1), some (.int a2), some (.int (0 : Int32)), some (.int (9 : Int32)), some (.int (0 : Int32)), none, none]) dX6_keepAt_27 rfl (Nat.le_of_ble_eq_true rfl) <|
 (h7.1 c8)) (fun c8 => x_iconst dX6_keepAt_18 ic_m1 <|
 x_ireturn rfl dX6_keepAt_19 ⟨_, rfl, (h7.2 c8)⟩))))))
def K_X6_common_6 (E : EV) (Q : Sg → Int64 → Prop) (σ : Sg) (v0 : Int64) (v2 : Int64) (v4 : Int64) (v6 : Int64) : Prop := J E mi_X6_common (tgM E mi_X6_common (qL Q)) 6 [some (.long v0), none, some (.long v2), none, some (.long v4), none, some (.long v6), none, none, none] [] σ
set_option maxRecDepth 100000 in
set_option maxHeartbeats 4000000 in
theorem B_X6_common_6 {E : EV} {Q : Sg → Int64 → Prop} {σ : Sg} {v0 : Int64} {v2 : Int64} {v4 : Int64} {v6 : Int64} (h : (((lg_cmp v6 (0 : Int64)) = 0) → Q σ v4) ∧ ((¬ (lg_cmp v6 (0 : Int64)) = 0) → ¬ v6 = 0 ∧ K_X6_common_6 E Q σ v0 v2 v6 (v4 - v4 / v6 * v6))) : K_X6_common_6 E Q σ v0 v2 v4 v6 :=
 x_lload dX6_common_6 rfl <|
 x_lconst dX6_common_8 lc_0 <|
 x_lcmp dX6_common_9 <|
 x_if_eq (tgt := 31) dX6_common_10 (by decide) (fun c1 => x_lload dX6_common_31 rfl <|
 x_lreturn rfl dX6_common_33 ⟨_, rfl, (h.1 c1)⟩) (fun c1 => x_lload dX6_common_13 rfl <|
 x_lload dX6_common_15 rfl <|
 x_lrem dX6_common_17 (h.2 c1).1 <|
 x_lstore (L2 := [some (.long v0), none, some (.long v2), none, some (.long v4), none, some (.long v6), none, some (.long (v4 - v4 / v6 * v6)), none]) dX6_common_18 rfl (Nat.le_of_ble_eq_true rfl) <|
 x_lload dX6_common_20 rfl <|
 x_lstore (L2 := [some (.long v0), none, some (.long v2), none, some (.long v6), none, some (.long v6), none, some (.long (v4 - v4 / v6 * v6)), none]) dX6_common_22 rfl (Nat.le_of_ble_eq_true rfl) <|
 x_lload dX6_common_24 rfl <|
 x_lstore (L2 := [some (.long v0), none, some (.long v2), none, some (.long v6), none, some (.long (v4 - v4 / v6 * v6)), none, some (.long (v4 - v4 / v6 * v6)), none]) dX6_common_26 rfl (Nat.le_of_ble_eq_true rfl) <|
 x_goto (tgt := 6) dX6_common_28 (by decide) <|
 x_sub (L2 := [some (.long v0), none, some (.long v2), none, some (.long v6), none, some (.long (v4 - v4 / v6 * v6)), none, none, none]) ⟨rfl, rfl, rfl, rfl, trivial⟩ (h.2 c1).2)
set_option maxRecDepth 100000 in
set_option maxHeartbeats 4000000 in
theorem M_X6_common {E : EV} {Q : Sg → Int64 → Prop} {σ : Sg} {a1 : Int64} {a2 : Int64} (h : K_X6_common_6 E Q σ a1 a2 a1 a2) : MetL E mi_X6_common [.long a1, .long a2] σ Q :=
 met_of (L := [some (.long a1), none, some (.long a2), none, none, none, none, none, none, none]) pn_X6 rfl (Nat.le_of_ble_eq_true rfl) <|
 x_lload_n dX6_common_0 rfl <|
 x_lstore (L2 := [some (.long a1), none, some (.long a2), none, some (.long a1), none, none, none, none, none]) dX6_common_1 rfl (Nat.le_of_ble_eq_true rfl) <|
 x_lload_n dX6_common_3 rfl <|
 x_lstore (L2 := [some (.long a1), none, some (.long a2), none, some (.long a1), none, some (.long a2), none, none, none]) dX6_common_4 rfl (Nat.le_of_ble_eq_true rfl) <|
 h
def K_X6_chance_89 (E : EV) (Q : Sg → Int64 → Prop) (σ : Sg) (v1 : Int32) (v2 : Int32) (v3 : Int32) (v4 : Int32) (v5 : Int32) (v6 : Int32) (v7 : Int64) (v9 : Int64) (v11 : Int32) : Prop := J E mi_X6_chance (tgM E mi_X6_chance (qL Q)) 89 [some (.ref 40), some (.int v1), some (.int v2), some (.int v3), some (.int v4), some (.int v5), some (.int v6), some (.long v7), none, some (.long v9), none, some (.int v11), none, none, none] [] σ
def K_X6_chance_116 (E : EV) (Q : Sg → Int64 → Prop) (σ : Sg) (v1 : Int32) (v2 : Int32) (v3 : Int32) (v4 : Int32) (v5 : Int32) (v6 : Int32) (v7 : Int64) (v9 : Int64) (v11 : Int32) : Prop := J E mi_X6_chance (tgM E mi_X6_chance (qL Q)) 116 [some (.ref 40), some (.int v1), some (.int v2), some (.int v3), some (.int v4), some (.int v5), some (.int v6), some (.long v7), none, some (.long v9), none, some (.int v11), none, none, none] [] σ
def K_X6_chance_157 (E : EV) (Q : Sg → Int64 → Prop) (σ : Sg) (v1 : Int32) (v2 : Int32) (v3 : Int32) (v4 : Int32) (v5 : Int32) (v6 : Int32) (v7 : Int64) (v9 : Int64) (v11 : Int32) (v12 : Int64) (v14 : Int32) : Prop := J E mi_X6_chance (tgM E mi_X6_chance (qL Q)) 157 [some (.ref 40), some (.int v1), some (.int v2), some (.int v3), some (.int v4), some (.int v5), some (.int v6), some (.long v7), none, some (.long v9), none, some (.int v11), some (.long v12), none, some (.int v14)] [] σ
set_option maxRecDepth 100000 in
set_option maxHeartbeats 4000000 in
theorem B_X6_chance_89 {E : EV} {Q : Sg → Int64 → Prop} {σ : Sg} {v1 : Int32} {v2 : Int32} {v3 : Int32} {v4 : Int32} {v5 : Int32} {v6 : Int32} {v7 : Int64} {v9 : Int64} {v11 : Int32} (h : MetI E mi_X6_bitsIn [.int v6] σ (fun τ1 r2 => ((r2 ≤ v11) → K_X6_chance_116 E Q τ1 v1 v2 v3 v4 v5 v6 v7 v9 (0 : Int32)) ∧ ((¬ r2 ≤ v11) → K_X6_chance_89 E Q τ1 v1 v2 v3 v4 v5 v6 v7 (v9 * (v4.toInt64)) (v11 + 1)))) : K_X6_chance_89 E Q σ v1 v2 v3 v4 v5 v6 v7 v9 v11 :=
 x_iload dX6_chance_89 rfl <|
 x_iload dX6_chance_91 rfl <|
 x_callS (As := [.int v6]) ok_X6_bitsIn ml_X6_175 (okM (by decide)) dX6_chance_93 rfl rfl (Nat.le_of_ble_eq_true rfl) h <|
 (kI (fun τ1 r2 h3 => x_icmp_ge (tgt := 113) dX6_chance_96 (by decide) (fun c4 => x_iconst dX6_chance_113 ic_0 <|
 x_istore (L2 := [some (.ref 40), some (.int v1), some (.int v2), some (.int v3), some (.int v4), some (.int v5), some (.int v6), some (.long v7), none, some (.long v9), none, some (.int (0 : Int32)), none, none, none]) dX6_chance_114 rfl (Nat.le_of_ble_eq_true rfl) <|
 (h3.1 c4)) (fun c4 => x_lload dX6_chance_99 rfl <|
 x_iload dX6_chance_101 rfl <|
 x_i2l dX6_chance_103 <|
 x_lmul dX6_chance_104 <|
 x_lstore (L2 := [some (.ref 40), some (.int v1), some (.int v2), some (.int v3), some (.int v4), some (.int v5), some (.int v6), some (.long v7), none, some (.long (v9 * (v4.toInt64))), none, some (.int v11), none, none, none]) dX6_chance_105 rfl (Nat.le_of_ble_eq_true rfl) <|
 x_iinc (v := (v11 + 1)) (L2 := [some (.ref 40), some (.int v1), some (.int v2), some (.int v3), some (.int v4), some (.int v5), some (.int v6), some (.long v7), none, some (.long (v9 * (v4.toInt64))), none, some (.int (v11 + 1)), none, none, none]) dX6_chance_107 rfl (by rw [show Int32.ofInt (1) = 1 by decide]) rfl (Nat.le_of_ble_eq_true rfl) <|
 x_goto (tgt := 89) dX6_chance_110 (by decide) <|
 (h3.2 c4))))
set_option maxRecDepth 100000 in
set_option maxHeartbeats 4000000 in
theorem B_X6_chance_116 {E : EV} {Q : Sg → Int64 → Prop} {σ : Sg} {v1 : Int32} {v2 : Int32} {v3 : Int32} {v4 : Int32} {v5 : Int32} {v6 : Int32} {v7 : Int64} {v9 : Int64} {v11 : Int32} (h : ((((1 : Int32) <<< (((gm σ 42) 0) &&& 31)) ≤ v11) → MetL E mi_X6_common [.long v7, .long v9] σ (fun τ2 r3 => ((¬ v5 = 0) → ¬ r3 = 0 ∧ Q τ2 (v9 / r3)) ∧ ((v5 = 0) → ¬ r3 = 0 ∧ Q τ2 (v7 / r3)))) ∧ ((¬ ((1 : Int32) <<< (((gm σ 42) 0) &&& 31)) ≤ v11) → ((¬ (v11 &&& (v6 ^^^ (-1 : Int32))) = 0) → K_X6_chance_116 E Q σ v1 v2 v3 v4 v5 v6 v7 v9 (v11 + 1)) ∧ (((v11 &&& (v6 ^^^ (-1 : Int32))) = 0) → MetI E mi_X6_isLawBy [.ref 40, .int v1, .int v2, .int v11, .int (1 : Int32)] σ (fun τ7 r8 => ((r8 = 0) → K_X6_chance_116 E Q τ7 v1 v2 v3 v4 v5 v6 v7 v9 (v11 + 1)) ∧ ((¬ r8 = 0) → K_X6_chance_157 E Q τ7 v1 v2 v3 v4 v5 v6 v7 v9 v11 (1 : Int64) (0 : Int32)))))) : K_X6_chance_116 E Q σ v1 v2 v3 v4 v5 v6 v7 v9 v11 :=
 x_iload dX6_chance_116 rfl <|
 x_iconst dX6_chance_118 ic_1 <|
 x_aload_n dX6_chance_119 rfl <|
 x_getf (v := .ref 42) fl_X6_13 rfl rfl rfl dX6_chance_120 <|
 x_iconst dX6_chance_123 ic_0 <|
 x_iaload (v := ((gm σ 42) 0)) rfl (vpd (by decide)) rfl dX6_chance_124 <|
 x_ishl dX6_chance_125 <|
 x_icmp_ge (tgt := 227) dX6_chance_126 (by decide) (fun c1 => x_lload dX6_chance_227 rfl <|
 x_lload dX6_chance_229 rfl <|
 x_callS (As := [.long v7, .long v9]) ok_X6_common ml_X6_197 (okM (by decide)) dX6_chance_231 rfl rfl (Nat.le_of_ble_eq_true rfl) (h.1 c1) <|
 (kL (fun τ2 r3 h4 => x_lstore (L2 := [some (.ref 40), some (.int v1), some (.int v2), some (.int v3), some (.int v4), some (.int v5), some (.int v6), some (.long v7), none, some (.long v9), none, some (.long r3), none, none, none]) dX6_chance_234 rfl (Nat.le_of_ble_eq_true rfl) <|
 x_iload dX6_chance_236 rfl <|
 x_if_ne (tgt := 249) dX6_chance_238 (by decide) (fun c5 => x_lload dX6_chance_249 rfl <|
 x_lload dX6_chance_251 rfl <|
 x_ldiv dX6_chance_253 (h4.1 c5).1 <|
 x_lreturn rfl dX6_chance_254 ⟨_, rfl, (h4.1 c5).2⟩) (fun c5 => x_lload dX6_chance_241 rfl <|
 x_lload dX6_chance_243 rfl <|
 x_ldiv dX6_chance_245 (h4.2 c5).1 <|
 x_goto (tgt := 254) dX6_chance_246 (by decide) <|
 x_lreturn rfl dX6_chance_254 ⟨_, rfl, (h4.2 c5).2⟩)))) (fun c1 => x_iload dX6_chance_129 rfl <|
 x_iload dX6_chance_131 rfl <|
 x_iconst dX6_chance_133 ic_m1 <|
 x_ixor dX6_chance_134 <|
 x_iand dX6_chance_135 <|
 x_if_ne (tgt := 221) dX6_chance_136 (by decide) (fun c6 => x_iinc (v := (v11 + 1)) (L2 := [some (.ref 40), some (.int v1), some (.int v2), some (.int v3), some (.int v4), some (.int v5), some (.int v6), some (.long v7), none, some (.long v9), none, some (.int (v11 + 1)), none, none, none]) dX6_chance_221 rfl (by rw [show Int32.ofInt (1) = 1 by decide]) rfl (Nat.le_of_ble_eq_true rfl) <|
 x_goto (tgt := 116) dX6_chance_224 (by decide) <|
 ((h.2 c1).1 c6)) (fun c6 => x_aload_n dX6_chance_139 rfl <|
 x_iload_n dX6_chance_140 rfl <|
 x_iload_n dX6_chance_141 rfl <|
 x_iload dX6_chance_142 rfl <|
 x_iconst dX6_chance_144 ic_1 <|
 x_callV (b := 40) (As := [.int v1, .int v2, .int v11, .int (1 : Int32)]) ok_X6_isLawBy ml_X6_185 (okM (by decide)) dX6_chance_145 rfl rfl (Nat.le_of_ble_eq_true rfl) rfl rfl rfl ((h.2 c1).2 c6) <|
 (kI (fun τ7 r8 h9 => x_if_eq (tgt := 221) dX6_chance_148 (by decide) (fun c10 => x_iinc (v := (v11 + 1)) (L2 := [some (.ref 40), some (.int v1), some (.int v2), some (.int v3), some (.int v4), some (.int v5), some (.int v6), some (.long v7), none, some (.long v9), none, some (.int (v11 + 1)), none, none, none]) dX6_chance_221 rfl (by rw [show Int32.ofInt (1) = 1 by decide]) rfl (Nat.le_of_ble_eq_true rfl) <|
 x_goto (tgt := 116) dX6_chance_224 (by decide) <|
 (h9.1 c10)) (fun c10 => x_lconst dX6_chance_151 lc_1 <|
 x_lstore (L2 := [some (.ref 40), some (.int v1), some (.int v2), some (.int v3), some (.int v4), some (.int v5), some (.int v6), some (.long v7), none, some (.long v9), none, some (.int v11), some (.long (1 : Int64)), none, none]) dX6_chance_152 rfl (Nat.le_of_ble_eq_true rfl) <|
 x_iconst dX6_chance_154 ic_0 <|
 x_istore (L2 := [some (.ref 40), some (.int v1), some (.int v2), some (.int v3), some (.int v4), some (.int v5), some (.int v6), some (.long v7), none, some (.long v9), none, some (.int v11), some (.long (1 : Int64)), none, some (.int (0 : Int32))]) dX6_chance_155 rfl (Nat.le_of_ble_eq_true rfl) <|
 (h9.2 c10))))))
set_option maxRecDepth 100000 in
set_option maxHeartbeats 4000000 in
theorem B_X6_chance_157 {E : EV} {Q : Sg → Int64 → Prop} {σ : Sg} {v1 : Int32} {v2 : Int32} {v3 : Int32} {v4 : Int32} {v5 : Int32} {v6 : Int32} {v7 : Int64} {v9 : Int64} {v11 : Int32} {v12 : Int64} {v14 : Int32} (h : ((((gm σ 42) 0) ≤ v14) → K_X6_chance_116 E Q σ v1 v2 v3 v4 v5 v6 (v7 + v12) v9 (v11 + 1)) ∧ ((¬ ((gm σ 42) 0) ≤ v14) → ((¬ ((v6 >>> (v14 &&& 31)) &&& (1 : Int32)) = 0) → ((¬ ((v11 >>> (v14 &&& 31)) &&& (1 : Int32)) = (1 : Int32)) → K_X6_chance_157 E Q σ v1 v2 v3 v4 v5 v6 v7 v9 v11 (v12 * ((v4 - v3).toInt64)) (v14 + 1)) ∧ ((((v11 >>> (v14 &&& 31)) &&& (1 : Int32)) = (1 : Int32)) → K_X6_chance_157 E Q σ v1 v2 v3 v4 v5 v6 v7 v9 v11 (v12 * (v3.toInt64)) (v14 + 1))) ∧ ((((v6 >>> (v14 &&& 31)) &&& (1 : Int32)) = 0) → K_X6_chance_157 E Q σ v1 v2 v3 v4 v5 v6 v7 v9 v11 (v12 * (1 : Int64)) (v14 + 1)))) : K_X6_chance_157 E Q σ v1 v2 v3 v4 v5 v6 v7 v9 v11 v12 v14 :=
 x_iload dX6_chance_157 rfl <|
 x_aload_n dX6_chance_159 rfl <|
 x_getf (v := .ref 42) fl_X6_13 rfl rfl rfl dX6_chance_160 <|
 x_iconst dX6_chance_163 ic_0 <|
 x_iaload (v := ((gm σ 42) 0)) rfl (vpd (by decide)) rfl dX6_chance_164 <|
 x_icmp_ge (tgt := 214) dX6_chance_165 (by decide) (fun c1 => x_lload dX6_chance_214 rfl <|
 x_lload dX6_chance_216 rfl <|
 x_ladd dX6_chance_218 <|
 x_lstore (L2 := [some (.ref 40), some (.int v1), some (.int v2), some (.int v3), some (.int v4), some (.int v5), some (.int v6), some (.long (v7 + v12)), none, some (.long v9), none, some (.int v11), some (.long v12), none, some (.int v14)]) dX6_chance_219 rfl (Nat.le_of_ble_eq_true rfl) <|
 x_iinc (v := (v11 + 1)) (L2 := [some (.ref 40), some (.int v1), some (.int v2), some (.int v3), some (.int v4), some (.int v5), some (.int v6), some (.long (v7 + v12)), none, some (.long v9), none, some (.int (v11 + 1)), some (.long v12), none, some (.int v14)]) dX6_chance_221 rfl (by rw [show Int32.ofInt (1) = 1 by decide]) rfl (Nat.le_of_ble_eq_true rfl) <|
 x_goto (tgt := 116) dX6_chance_224 (by decide) <|
 x_sub (L2 := [some (.ref 40), some (.int v1), some (.int v2), some (.int v3), some (.int v4), some (.int v5), some (.int v6), some (.long (v7 + v12)), none, some (.long v9), none, some (.int (v11 + 1)), none, none, none]) ⟨rfl, rfl, rfl, rfl, rfl, rfl, rfl, rfl, rfl, rfl, trivial⟩ (h.1 c1)) (fun c1 => x_lload dX6_chance_168 rfl <|
 x_iload dX6_chance_170 rfl <|
 x_iload dX6_chance_172 rfl <|
 x_ishr dX6_chance_174 <|
 x_iconst dX6_chance_175 ic_1 <|
 x_iand dX6_chance_176 <|
 x_if_ne (tgt := 184) dX6_chance_177 (by decide) (fun c2 => x_iload dX6_chance_184 rfl <|
 x_iload dX6_chance_186 rfl <|
 x_ishr dX6_chance_188 <|
 x_iconst dX6_chance_189 ic_1 <|
 x_iand dX6_chance_190 <|
 x_iconst dX6_chance_191 ic_1 <|
 x_icmp_ne (tgt := 200) dX6_chance_192 (by decide) (fun c3 => x_iload dX6_chance_200 rfl <|
 x_iload_n dX6_chance_202 rfl <|
 x_isub dX6_chance_203 <|
 x_i2l dX6_chance_204 <|
 x_lmul dX6_chance_205 <|
 x_lstore (L2 := [some (.ref 40), some (.int v1), some (.int v2), some (.int v3), some (.int v4), some (.int v5), some (.int v6), some (.long v7), none, some (.long v9), none, some (.int v11), some (.long (v12 * ((v4 - v3).toInt64))), none, some (.int v14)]) dX6_chance_206 rfl (Nat.le_of_ble_eq_true rfl) <|
 x_iinc (v := (v14 + 1)) (L2 := [some (.ref 40), some (.int v1), some (.int v2), some (.int v3), some (.int v4), some (.int v5), some (.int v6), some (.long v7), none, some (.long v9), none, some (.int v11), some (.long (v12 * ((v4 - v3).toInt64))), none, some (.int (v14 + 1))]) dX6_chance_208 rfl (by rw [show Int32.ofInt (1) = 1 by decide]) rfl (Nat.le_of_ble_eq_true rfl) <|
 x_goto (tgt := 157) dX6_chance_211 (by decide) <|
 (((h.2 c1).1 c2).1 c3)) (fun c3 => x_iload_n dX6_chance_195 rfl <|
 x_i2l dX6_chance_196 <|
 x_goto (tgt := 205) dX6_chance_197 (by decide) <|
 x_lmul dX6_chance_205 <|
 x_lstore (L2 := [some (.ref 40), some (.int v1), some (.int v2), some (.int v3), some (.int v4), some (.int v5), some (.int v6), some (.long v7), none, some (.long v9), none, some (.int v11), some (.long (v12 * (v3.toInt64))), none, some (.int v14)]) dX6_chance_206 rfl (Nat.le_of_ble_eq_true rfl) <|
 x_iinc (v := (v14 + 1)) (L2 := [some (.ref 40), some (.int v1), some (.int v2), some (.int v3), some (.int v4), some (.int v5), some (.int v6), some (.long v7), none, some (.long v9), none, some (.int v11), some (.long (v12 * (v3.toInt64))), none, some (.int (v14 + 1))]) dX6_chance_208 rfl (by rw [show Int32.ofInt (1) = 1 by decide]) rfl (Nat.le_of_ble_eq_true rfl) <|
 x_goto (tgt := 157) dX6_chance_211 (by decide) <|
 (((h.2 c1).1 c2).2 c3))) (fun c2 => x_lconst dX6_chance_180 lc_1 <|
 x_goto (tgt := 205) dX6_chance_181 (by decide) <|
 x_lmul dX6_chance_205 <|
 x_lstore (L2 := [some (.ref 40), some (.int v1), some (.int v2), some (.int v3), some (.int v4), some (.int v5), some (.int v6), some (.long v7), none, some (.long v9), none, some (.int v11), some (.long (v12 * (1 : Int64))), none, some (.int v14)]) dX6_chance_206 rfl (Nat.le_of_ble_eq_true rfl) <|
 x_iinc (v := (v14 + 1)) (L2 := [some (.ref 40), some (.int v1), some (.int v2), some (.int v3), some (.int v4), some (.int v5), some (.int v6), some (.long v7), none, some (.long v9), none, some (.int v11), some (.long (v12 * (1 : Int64))), none, some (.int (v14 + 1))]) dX6_chance_208 rfl (by rw [show Int32.ofInt (1) = 1 by decide]) rfl (Nat.le_of_ble_eq_true rfl) <|
 x_goto (tgt := 157) dX6_chance_211 (by decide) <|
 ((h.2 c1).2 c2)))
set_option maxRecDepth 100000 in
set_option maxHeartbeats 4000000 in
theorem M_X6_chance {E : EV} {Q : Sg → Int64 → Prop} {σ : Sg} {a1 : Int32} {a2 : Int32} {a3 : Int32} {a4 : Int32} {a5 : Int32} (h : MetI E mi_X6_isThing [.int a1] σ (fun τ1 r2 => ((r2 = 0) → Q τ1 (-1 : Int64)) ∧ ((¬ r2 = 0) → MetI E mi_X6_in [.int a2, .int (0 : Int32), .int (99 : Int32)] τ1 (fun τ5 r6 => ((r6 = 0) → Q τ5 (-1 : Int64)) ∧ ((¬ r6 = 0) → MetI E mi_X6_in [.int a4, .int (1 : Int32), .int (9 : Int32)] τ5 (fun τ9 r10 => ((r10 = 0) → Q τ9 (-1 : Int64)) ∧ ((¬ r10 = 0) → MetI E mi_X6_in [.int a3, .int (0 : Int32), .int a4] τ9 (fun τ13 r14 => ((r14 = 0) → Q τ13 (-1 : Int64)) ∧ ((¬ r14 = 0) → MetI E mi_X6_in [.int a5, .int (0 : Int32), .int (1 : Int32)] τ13 (fun τ17 r18 => ((¬ r18 = 0) → MetI E mi_X6_isLawBy [.ref 40, .int a1, .int a2, .int (0 : Int32), .int (1 : Int32)] τ17 (fun τ21 r22 => K_X6_chance_89 E Q τ21 a1 a2 a3 a4 a5 (((gi τ21 4029) ^^^ (-1 : Int32)) &&& (((1 : Int32) <<< (((gm τ21 42) 0) &&& 31)) - (1 : Int32))) (0 : Int64) (1 : Int64) (0 : Int32))) ∧ ((r18 = 0) → Q τ17 (-1 : Int64)))))))))))) : MetL E mi_X6_chance [.ref 40, .int a1, .int a2, .int a3, .int a4, .int a5] σ Q :=
 met_of (L := [some (.ref 40), some (.int a1), some (.int a2), some (.int a3), some (.int a4), some (.int a5), none, none, none, none, none, none, none, none, none]) pn_X6 rfl (Nat.le_of_ble_eq_true rfl) <|
 x_iload_n dX6_chance_0 rfl <|
 x_callS (As := [.int a1]) ok_X6_isThing ml_X6_169 (okM (by decide)) dX6_chance_1 rfl rfl (Nat.le_of_ble_eq_true rfl) h <|
 (kI (fun τ1 r2 h3 => x_if_eq (tgt := 48) dX6_chance_4 (by decide) (fun c4 => x_ldc2 kc_X6_195 dX6_chance_48 <|
 x_lreturn rfl dX6_chance_51 ⟨_, rfl, (h3.1 c4)⟩) (fun c4 => x_iload_n dX6_chance_7 rfl <|
 x_iconst dX6_chance_8 ic_0 <|
 x_bipush dX6_chance_9 bp_99 <|
 x_callS (As := [.int a2, .int (0 : Int32), .int (99 : Int32)]) ok_X6_in ml_X6_63 (okM (by decide)) dX6_chance_11 rfl rfl (Nat.le_of_ble_eq_true rfl) (h3.2 c4) <|
 (kI (fun τ5 r6 h7 => x_if_eq (tgt := 48) dX6_chance_14 (by decide) (fun c8 => x_ldc2 kc_X6_195 dX6_chance_48 <|
 x_lreturn rfl dX6_chance_51 ⟨_, rfl, (h7.1 c8)⟩) (fun c8 => x_iload dX6_chance_17 rfl <|
 x_iconst dX6_chance_19 ic_1 <|
 x_bipush dX6_chance_20 bp_9 <|
 x_callS (As := [.int a4, .int (1 : Int32), .int (9 : Int32)]) ok_X6_in ml_X6_63 (okM (by decide)) dX6_chance_22 rfl rfl (Nat.le_of_ble_eq_true rfl) (h7.2 c8) <|
 (kI (fun τ9 r10 h11 => x_if_eq (tgt := 48) dX6_chance_25 (by decide) (fun c12 => x_ldc2 kc_X6_195 dX6_chance_48 <|
 x_lreturn rfl dX6_chance_51 ⟨_, rfl, (h11.1 c12)⟩) (fun c12 => x_iload_n dX6_chance_28 rfl <|
 x_iconst dX6_chance_29 ic_0 <|
 x_iload dX6_chance_30 rfl <|
 x_callS (As := [.int a3, .int (0 : Int32), .int a4]) ok_X6_in ml_X6_63 (okM (by decide)) dX6_chance_32 rfl rfl (Nat.le_of_ble_eq_true rfl) (h11.2 c12) <|
 (kI (fun τ13 r14 h15 => x_if_eq (tgt := 48) dX6_chance_35 (by decide) (fun c16 => x_ldc2 kc_X6_195 dX6_chance_48 <|
 x_lreturn rfl dX6_chance_51 ⟨_, rfl, (h15.1 c16)⟩) (fun c16 => x_iload dX6_chance_38 rfl <|
 x_iconst dX6_chance_40 ic_0 <|
 x_iconst dX6_chance_41 ic_1 <|
 x_callS (As := [.int a5, .int (0 : Int32), .int (1 : Int32)]) ok_X6_in ml_X6_63 (okM (by decide)) dX6_chance_42 rfl rfl (Nat.le_of_ble_eq_true rfl) (h15.2 c16) <|
 (kI (fun τ17 r18 h19 => x_if_ne (tgt := 52) dX6_chance_45 (by decide) (fun c20 => x_aload_n dX6_chance_52 rfl <|
 x_iload_n dX6_chance_53 rfl <|
 x_iload_n dX6_chance_54 rfl <|
 x_iconst dX6_chance_55 ic_0 <|
 x_iconst dX6_chance_56 ic_1 <|
 x_callV (b := 40) (As := [.int a1, .int a2, .int (0 : Int32), .int (1 : Int32)]) ok_X6_isLawBy ml_X6_185 (okM (by decide)) dX6_chance_57 rfl rfl (Nat.le_of_ble_eq_true rfl) rfl rfl rfl (h19.1 c20) <|
 (kI (fun τ21 r22 h23 => x_pop dX6_chance_60 rfl <|
 x_aload_n dX6_chance_61 rfl <|
 x_getf (v := .int (gi τ21 4029)) fl_X6_134 rfl rfl rfl dX6_chance_62 <|
 x_iconst dX6_chance_65 ic_m1 <|
 x_ixor dX6_chance_66 <|
 x_iconst dX6_chance_67 ic_1 <|
 x_aload_n dX6_chance_68 rfl <|
 x_getf (v := .ref 42) fl_X6_13 rfl rfl rfl dX6_chance_69 <|
 x_iconst dX6_chance_72 ic_0 <|
 x_iaload (v := ((gm τ21 42) 0)) rfl (vpd (by decide)) rfl dX6_chance_73 <|
 x_ishl dX6_chance_74 <|
 x_iconst dX6_chance_75 ic_1 <|
 x_isub dX6_chance_76 <|
 x_iand dX6_chance_77 <|
 x_istore (L2 := [some (.ref 40), some (.int a1), some (.int a2), some (.int a3), some (.int a4), some (.int a5), some (.int (((gi τ21 4029) ^^^ (-1 : Int32)) &&& (((1 : Int32) <<< (((gm τ21 42) 0) &&& 31)) - (1 : Int32)))), none, none, none, none, none, none, none, none]) dX6_chance_78 rfl (Nat.le_of_ble_eq_true rfl) <|
 x_lconst dX6_chance_80 lc_0 <|
 x_lstore (L2 := [some (.ref 40), some (.int a1), some (.int a2), some (.int a3), some (.int a4), some (.int a5), some (.int (((gi τ21 4029) ^^^ (-1 : Int32)) &&& (((1 : Int32) <<< (((gm τ21 42) 0) &&& 31)) - (1 : Int32)))), some (.long (0 : Int64)), none, none, none, none, none, none, none]) dX6_chance_81 rfl (Nat.le_of_ble_eq_true rfl) <|
 x_lconst dX6_chance_83 lc_1 <|
 x_lstore (L2 := [some (.ref 40), some (.int a1), some (.int a2), some (.int a3), some (.int a4), some (.int a5), some (.int (((gi τ21 4029) ^^^ (-1 : Int32)) &&& (((1 : Int32) <<< (((gm τ21 42) 0) &&& 31)) - (1 : Int32)))), some (.long (0 : Int64)), none, some (.long (1 : Int64)), none, none, none, none, none]) dX6_chance_84 rfl (Nat.le_of_ble_eq_true rfl) <|
 x_iconst dX6_chance_86 ic_0 <|
 x_istore (L2 := [some (.ref 40), some (.int a1), some (.int a2), some (.int a3), some (.int a4), some (.int a5), some (.int (((gi τ21 4029) ^^^ (-1 : Int32)) &&& (((1 : Int32) <<< (((gm τ21 42) 0) &&& 31)) - (1 : Int32)))), some (.long (0 : Int64)), none, some (.long (1 : Int64)), none, some (.int (0 : Int32)), none, none, none]) dX6_chance_87 rfl (Nat.le_of_ble_eq_true rfl) <|
 h23))) (fun c20 => x_ldc2 kc_X6_195 dX6_chance_48 <|
 x_lreturn rfl dX6_chance_51 ⟨_, rfl, (h19.2 c20)⟩)))))))))))))))
set_option maxRecDepth 100000 in
set_option maxHeartbeats 4000000 in
theorem M_X6_mark {E : EV} {Q : Sg → Int32 → Prop} {σ : Sg} {a1 : Int32} {a2 : Int32} {a3 : Int32} (h : MetI E mi_X6_in [.int a1, .int (0 : Int32), .int (5 : Int32)] σ (fun τ1 r2 => ((r2 = 0) → Q τ1 (-1000000 : Int32)) ∧ ((¬ r2 = 0) → MetI E mi_X6_isOne [.ref 40, .int a2] τ1 (fun τ5 r6 => ((r6 = 0) → Q τ5 (-1000000 : Int32)) ∧ ((¬ r6 = 0) → MetI E mi_X6_isThing [.int a3] τ5 (fun τ9 r10 => ((¬ r10 = 0) → MetV E mi_X6_goPlain [.ref 40, .int (0 : Int32)] τ9 (fun τ13 => vp_in (((4 : Int32) * a2) + a3) 32 ∧ MetI E mi_X6_bitsIn [.int ((gm τ13 52) (((4 : Int32) * a2) + a3).toNatClampNeg)] τ13 (fun τ15 r16 => ((a1.toInt < 0 ∨ 4 < a1.toInt) → Q (sl τ15 4000 ((gl τ15 4000) + (100001 : Int64))) (r16 + ((gm τ15 44) 0))) ∧ ((a1.toInt = 0) → Q (sl τ15 4000 ((gl τ15 4000) + (1 : Int64))) r16) ∧ ((a1.toInt = 1) → Q (sl τ15 4000 ((gl τ15 4000) + (11 : Int64))) ((2 : Int32) * r16)) ∧ ((a1.toInt = 2) → Q (sl τ15 4000 ((gl τ15 4000) + (101 : Int64))) (r16 + a2)) ∧ ((a1.toInt = 3) → Q (sl τ15 4000 ((gl τ15 4000) + (1011 : Int64))) (((2 : Int32) * r16) + a3)) ∧ ((a1.toInt = 4) → vp_in a2 8 ∧ Q (sl τ15 4000 ((gl τ15 4000) + (10101 : Int64))) ((r16 + a2) - ((gm τ15 51) a2.toNatClampNeg)))))) ∧ ((r10 = 0) → Q τ9 (-1000000 : Int32)))))))) : MetI E mi_X6_mark [.ref 40, .int a1, .int a2, .int a3] σ Q :=
 met_of (L := [some (.ref 40), some (.int a1), some (.int a2), some (.int a3), none]) pn_X6 rfl (Nat.le_of_ble_eq_true rfl) <|
 x_iload_n dX6_mark_0 rfl <|
 x_iconst dX6_mark_1 ic_0 <|
 x_iconst dX6_mark_2 ic_5 <|
 x_callS (As := [.int a1, .int (0 : Int32), .int (5 : Int32)]) ok_X6_in ml_X6_63 (okM (by decide)) dX6_mark_3 rfl rfl (Nat.le_of_ble_eq_true rfl) h <|
 (kI (fun τ1 r2 h3 => x_if_eq (tgt := 24) dX6_mark_6 (by decide) (fun c4 => x_ldc kc_X6_201 dX6_mark_24 <|
 x_ireturn rfl dX6_mark_26 ⟨_, rfl, (h3.1 c4)⟩) (fun c4 => x_aload_n dX6_mark_9 rfl <|
 x_iload_n dX6_mark_10 rfl <|
 x_callV (b := 40) (As := [.int a2]) ok_X6_isOne ml_X6_117 (okM (by decide)) dX6_mark_11 rfl rfl (Nat.le_of_ble_eq_true rfl) rfl rfl rfl (h3.2 c4) <|
 (kI (fun τ5 r6 h7 => x_if_eq (tgt := 24) dX6_mark_14 (by decide) (fun c8 => x_ldc kc_X6_201 dX6_mark_24 <|
 x_ireturn rfl dX6_mark_26 ⟨_, rfl, (h7.1 c8)⟩) (fun c8 => x_iload_n dX6_mark_17 rfl <|
 x_callS (As := [.int a3]) ok_X6_isThing ml_X6_169 (okM (by decide)) dX6_mark_18 rfl rfl (Nat.le_of_ble_eq_true rfl) (h7.2 c8) <|
 (kI (fun τ9 r10 h11 => x_if_ne (tgt := 27) dX6_mark_21 (by decide) (fun c12 => x_aload_n dX6_mark_27 rfl <|
 x_iconst dX6_mark_28 ic_0 <|
 x_callV (b := 40) (As := [.int (0 : Int32)]) ok_X6_goPlain ml_X6_172 (okM (by decide)) dX6_mark_29 rfl rfl (Nat.le_of_ble_eq_true rfl) rfl rfl rfl (h11.1 c12) <|
 (kV (fun τ13 h14 => x_aload_n dX6_mark_32 rfl <|
 x_getf (v := .ref 52) fl_X6_45 rfl rfl rfl dX6_mark_33 <|
 x_iconst dX6_mark_36 ic_4 <|
 x_iload_n dX6_mark_37 rfl <|
 x_imul dX6_mark_38 <|
 x_iload_n dX6_mark_39 rfl <|
 x_iadd dX6_mark_40 <|
 x_iaload (v := ((gm τ13 52) (((4 : Int32) * a2) + a3).toNatClampNeg)) rfl h14.1 rfl dX6_mark_41 <|
 x_callS (As := [.int ((gm τ13 52) (((4 : Int32) * a2) + a3).toNatClampNeg)]) ok_X6_bitsIn ml_X6_175 (okM (by decide)) dX6_mark_42 rfl rfl (Nat.le_of_ble_eq_true rfl) h14.2 <|
 (kI (fun τ15 r16 h17 => x_istore (L2 := [some (.ref 40), some (.int a1), some (.int a2), some (.int a3), some (.int r16)]) dX6_mark_45 rfl (Nat.le_of_ble_eq_true rfl) <|
 x_iload_n dX6_mark_47 rfl <|
 x_tab dX6_mark_48 rfl ⟨by decide, by decide⟩ (fun c18 tgt ht => by
  have e : tgt = 174 := by omega
  subst e
  exact x_aload_n dX6_mark_174 rfl <|
 x_dup dX6_mark_175 rfl <|
 x_getf (v := .long (gl τ15 4000)) fl_X6_202 rfl rfl rfl dX6_mark_176 <|
 x_ldc2 kc_X6_214 dX6_mark_179 <|
 x_ladd dX6_mark_182 <|
 x_putl fp_X6_202 rfl rfl dX6_mark_183 <|
 x_iload dX6_mark_186 rfl <|
 x_aload_n dX6_mark_188 rfl <|
 x_getf (v := .ref 44) fl_X6_20 rfl rfl rfl dX6_mark_189 <|
 x_iconst dX6_mark_192 ic_0 <|
 x_iaload (v := ((gm τ15 44) 0)) rfl (vpd (by decide)) rfl dX6_mark_193 <|
 x_iadd dX6_mark_194 <|
 x_ireturn rfl dX6_mark_195 ⟨_, rfl, (h17.1 c18)⟩) (fun i off tgt ho hi ht => by
  match i, ho, hi with
  | 0, ho, hi =>
    have e0 : (36 : Int) = off := Option.some.inj ho
    have e : tgt = 84 := by omega
    subst e
    have c19 : a1.toInt = 0 := by omega
    exact x_aload_n dX6_mark_84 rfl <|
 x_dup dX6_mark_85 rfl <|
 x_getf (v := .long (gl τ15 4000)) fl_X6_202 rfl rfl rfl dX6_mark_86 <|
 x_lconst dX6_mark_89 lc_1 <|
 x_ladd dX6_mark_90 <|
 x_putl fp_X6_202 rfl rfl dX6_mark_91 <|
 x_iload dX6_mark_94 rfl <|
 x_ireturn rfl dX6_mark_96 ⟨_, rfl, (h17.2.1 c19)⟩
  | 1, ho, hi =>
    have e0 : (49 : Int) = off := Option.some.inj ho
    have e : tgt = 97 := by omega
    subst e
    have c20 : a1.toInt = 1 := by omega
    exact x_aload_n dX6_mark_97 rfl <|
 x_dup dX6_mark_98 rfl <|
 x_getf (v := .long (gl τ15 4000)) fl_X6_202 rfl rfl rfl dX6_mark_99 <|
 x_ldc2 kc_X6_206 dX6_mark_102 <|
 x_ladd dX6_mark_105 <|
 x_putl fp_X6_202 rfl rfl dX6_mark_106 <|
 x_iconst dX6_mark_109 ic_2 <|
 x_iload dX6_mark_110 rfl <|
 x_imul dX6_mark_112 <|
 x_ireturn rfl dX6_mark_113 ⟨_, rfl, (h17.2.2.1 c20)⟩
  | 2, ho, hi =>
    have e0 : (66 : Int) = off := Option.some.inj ho
    have e : tgt = 114 := by omega
    subst e
    have c21 : a1.toInt = 2 := by omega
    exact x_aload_n dX6_mark_114 rfl <|
 x_dup dX6_mark_115 rfl <|
 x_getf (v := .long (gl τ15 4000)) fl_X6_202 rfl rfl rfl dX6_mark_116 <|
 x_ldc2 kc_X6_208 dX6_mark_119 <|
 x_ladd dX6_mark_122 <|
 x_putl fp_X6_202 rfl rfl dX6_mark_123 <|
 x_iload dX6_mark_126 rfl <|
 x_iload_n dX6_mark_128 rfl <|
 x_iadd dX6_mark_129 <|
 x_ireturn rfl dX6_mark_130 ⟨_, rfl, (h17.2.2.2.1 c21)⟩
  | 3, ho, hi =>
    have e0 : (83 : Int) = off := Option.some.inj ho
    have e : tgt = 131 := by omega
    subst e
    have c22 : a1.toInt = 3 := by omega
    exact x_aload_n dX6_mark_131 rfl <|
 x_dup dX6_mark_132 rfl <|
 x_getf (v := .long (gl τ15 4000)) fl_X6_202 rfl rfl rfl dX6_mark_133 <|
 x_ldc2 kc_X6_210 dX6_mark_136 <|
 x_ladd dX6_mark_139 <|
 x_putl fp_X6_202 rfl rfl dX6_mark_140 <|
 x_iconst dX6_mark_143 ic_2 <|
 x_iload dX6_mark_144 rfl <|
 x_imul dX6_mark_146 <|
 x_iload_n dX6_mark_147 rfl <|
 x_iadd dX6_mark_148 <|
 x_ireturn rfl dX6_mark_149 ⟨_, rfl, (h17.2.2.2.2.1 c22)⟩
  | 4, ho, hi =>
    have e0 : (102 : Int) = off := Option.some.inj ho
    have e : tgt = 150 := by omega
    subst e
    have c23 : a1.toInt = 4 := by omega
    exact x_aload_n dX6_mark_150 rfl <|
 x_dup dX6_mark_151 rfl <|
 x_getf (v := .long (gl τ15 4000)) fl_X6_202 rfl rfl rfl dX6_mark_152 <|
 x_ldc2 kc_X6_212 dX6_mark_155 <|
 x_ladd dX6_mark_158 <|
 x_putl fp_X6_202 rfl rfl dX6_mark_159 <|
 x_iload dX6_mark_162 rfl <|
 x_iload_n dX6_mark_164 rfl <|
 x_iadd dX6_mark_165 <|
 x_aload_n dX6_mark_166 rfl <|
 x_getf (v := .ref 51) fl_X6_42 rfl rfl rfl dX6_mark_167 <|
 x_iload_n dX6_mark_170 rfl <|
 x_iaload (v := ((gm τ15 51) a2.toNatClampNeg)) rfl (h17.2.2.2.2.2 c23).1 rfl dX6_mark_171 <|
 x_isub dX6_mark_172 <|
 x_ireturn rfl dX6_mark_173 ⟨_, rfl, (h17.2.2.2.2.2 c23).2⟩
  | n + 5, ho, hi => exact absurd ho (by simp))))))) (fun c12 => x_ldc kc_X6_201 dX6_mark_24 <|
 x_ireturn rfl dX6_mark_26 ⟨_, rfl, (h11.2 c12)⟩)))))))))
set_option maxRecDepth 100000 in
set_option maxHeartbeats 4000000 in
theorem M_X6_keep {E : EV} {Q : Sg → Int32 → Prop} {σ : Sg} {a1 : Int32} (h : MetI E mi_X6_in [.int a1, .int (0 : Int32), .int (1 : Int32)] σ (fun τ1 r2 => ((¬ r2 = 0) → MetV E mi_X6_copy [.ref 40, .int (0 : Int32), .int ((2 : Int32) + a1)] τ1 (fun τ5 => vp_in a1 2 ∧ Q (sm τ5 50 a1.toNatClampNeg (vp_nar .boolean (1 : Int32))) ((gm τ5 44) 0))) ∧ ((r2 = 0) → Q τ1 (-1 : Int32)))) : MetI E mi_X6_keep [.ref 40, .int a1] σ Q :=
 met_of (L := [some (.ref 40), some (.int a1)]) pn_X6 rfl (Nat.le_of_ble_eq_true rfl) <|
 x_iload_n dX6_keep_0 rfl <|
 x_iconst dX6_keep_1 ic_0 <|
 x_iconst dX6_keep_2 ic_1 <|
 x_callS (As := [.int a1, .int (0 : Int32), .int (1 : Int32)]) ok_X6_in ml_X6_63 (okM (by decide)) dX6_keep_3 rfl rfl (Nat.le_of_ble_eq_true rfl) h <|
 (kI (fun τ1 r2 h3 => x_if_ne (tgt := 11) dX6_keep_6 (by decide) (fun c4 => x_aload_n dX6_keep_11 rfl <|
 x_iconst dX6_keep_12 ic_0 <|
 x_iconst dX6_keep_13 ic_2 <|
 x_iload_n dX6_keep_14 rfl <|
 x_iadd dX6_keep_15 <|
 x_callV (b := 40) (As := [.int (0 : Int32), .int ((2 : Int32) + a1)]) ok_X6_copy ml_X6_113 (okM (by decide)) dX6_keep_16 rfl rfl (Nat.le_of_ble_eq_true rfl) rfl rfl rfl (h3.1 c4) <|
 (kV (fun τ5 h6 => x_aload_n dX6_keep_19 rfl <|
 x_getf (v := .ref 50) fl_X6_38 rfl rfl rfl dX6_keep_20 <|
 x_iload_n dX6_keep_23 rfl <|
 x_iconst dX6_keep_24 ic_1 <|
 x_zastore rfl h6.1 dX6_keep_25 <|
 x_aload_n dX6_keep_26 rfl <|
 x_getf (v := .ref 44) fl_X6_20 rfl rfl rfl dX6_keep_27 <|
 x_iconst dX6_keep_30 ic_0 <|
 x_iaload (v := ((gm τ5 44) 0)) rfl (vpd (by decide)) rfl dX6_keep_31 <|
 x_ireturn rfl dX6_keep_32 ⟨_, rfl, h6.2⟩))) (fun c4 => x_iconst dX6_keep_9 ic_m1 <|
 x_ireturn rfl dX6_keep_10 ⟨_, rfl, (h3.2 c4)⟩)))
set_option maxRecDepth 100000 in
set_option maxHeartbeats 4000000 in
theorem M_X6_back {E : EV} {Q : Sg → Int32 → Prop} {σ : Sg} {a1 : Int32} (h : MetI E mi_X6_in [.int a1, .int (0 : Int32), .int (1 : Int32)] σ (fun τ1 r2 => ((¬ r2 = 0) → vp_in a1 2 ∧ ((¬ ((gm τ1 50) a1.toNatClampNeg) = 0) → MetV E mi_X6_copy [.ref 40, .int ((2 : Int32) + a1), .int (0 : Int32)] τ1 (fun τ6 => Q τ6 ((gm τ6 44) 0))) ∧ ((((gm τ1 50) a1.toNatClampNeg) = 0) → Q τ1 (-2 : Int32))) ∧ ((r2 = 0) → Q τ1 (-1 : Int32)))) : MetI E mi_X6_back [.ref 40, .int a1] σ Q :=
 met_of (L := [some (.ref 40), some (.int a1)]) pn_X6 rfl (Nat.le_of_ble_eq_true rfl) <|
 x_iload_n dX6_back_0 rfl <|
 x_iconst dX6_back_1 ic_0 <|
 x_iconst dX6_back_2 ic_1 <|
 x_callS (As := [.int a1, .int (0 : Int32), .int (1 : Int32)]) ok_X6_in ml_X6_63 (okM (by decide)) dX6_back_3 rfl rfl (Nat.le_of_ble_eq_true rfl) h <|
 (kI (fun τ1 r2 h3 => x_if_ne (tgt := 11) dX6_back_6 (by decide) (fun c4 => x_aload_n dX6_back_11 rfl <|
 x_getf (v := .ref 50) fl_X6_38 rfl rfl rfl dX6_back_12 <|
 x_iload_n dX6_back_15 rfl <|
 x_zaload (v := ((gm τ1 50) a1.toNatClampNeg)) rfl (h3.1 c4).1 rfl dX6_back_16 <|
 x_if_ne (tgt := 23) dX6_back_17 (by decide) (fun c5 => x_aload_n dX6_back_23 rfl <|
 x_iconst dX6_back_24 ic_2 <|
 x_iload_n dX6_back_25 rfl <|
 x_iadd dX6_back_26 <|
 x_iconst dX6_back_27 ic_0 <|
 x_callV (b := 40) (As := [.int ((2 : Int32) + a1), .int (0 : Int32)]) ok_X6_copy ml_X6_113 (okM (by decide)) dX6_back_28 rfl rfl (Nat.le_of_ble_eq_true rfl) rfl rfl rfl ((h3.1 c4).2.1 c5) <|
 (kV (fun τ6 h7 => x_aload_n dX6_back_31 rfl <|
 x_getf (v := .ref 44) fl_X6_20 rfl rfl rfl dX6_back_32 <|
 x_iconst dX6_back_35 ic_0 <|
 x_iaload (v := ((gm τ6 44) 0)) rfl (vpd (by decide)) rfl dX6_back_36 <|
 x_ireturn rfl dX6_back_37 ⟨_, rfl, h7⟩))) (fun c5 => x_bipush dX6_back_20 bp_m2 <|
 x_ireturn rfl dX6_back_22 ⟨_, rfl, ((h3.1 c4).2.2 c5)⟩)) (fun c4 => x_iconst dX6_back_9 ic_m1 <|
 x_ireturn rfl dX6_back_10 ⟨_, rfl, (h3.2 c4)⟩)))
set_option maxRecDepth 100000 in
set_option maxHeartbeats 4000000 in
theorem M_X6_count {E : EV} {Q : Sg → Int32 → Prop} {σ : Sg} {a1 : Int32} (h : ((¬ a1 = 0) → ((¬ a1 = (1 : Int32)) → ((¬ a1 = (2 : Int32)) → ((¬ a1 = (3 : Int32)) → ((¬ a1 = (4 : Int32)) → Q σ (-1 : Int32)) ∧ ((a1 = (4 : Int32)) → Q σ (gi σ 4002))) ∧ ((a1 = (3 : Int32)) → Q σ ((gm σ 45) 0))) ∧ ((a1 = (2 : Int32)) → MetI E mi_X6_maybesIn [.ref 40, .int (0 : Int32)] σ (fun τ6 r7 => Q τ6 r7))) ∧ ((a1 = (1 : Int32)) → Q σ ((gm σ 44) 0))) ∧ ((a1 = 0) → Q σ ((gm σ 42) 0))) : MetI E mi_X6_count [.ref 40, .int a1] σ Q :=
 met_of (L := [some (.ref 40), some (.int a1)]) pn_X6 rfl (Nat.le_of_ble_eq_true rfl) <|
 x_iload_n dX6_count_0 rfl <|
 x_if_ne (tgt := 13) dX6_count_1 (by decide) (fun c1 => x_iload_n dX6_count_13 rfl <|
 x_iconst dX6_count_14 ic_1 <|
 x_icmp_ne (tgt := 27) dX6_count_15 (by decide) (fun c2 => x_iload_n dX6_count_27 rfl <|
 x_iconst dX6_count_28 ic_2 <|
 x_icmp_ne (tgt := 40) dX6_count_29 (by decide) (fun c3 => x_iload_n dX6_count_40 rfl <|
 x_iconst dX6_count_41 ic_3 <|
 x_icmp_ne (tgt := 54) dX6_count_42 (by decide) (fun c4 => x_iload_n dX6_count_54 rfl <|
 x_iconst dX6_count_55 ic_4 <|
 x_icmp_ne (tgt := 66) dX6_count_56 (by decide) (fun c5 => x_iconst dX6_count_66 ic_m1 <|
 x_ireturn rfl dX6_count_67 ⟨_, rfl, (((((h.1 c1).1 c2).1 c3).1 c4).1 c5)⟩) (fun c5 => x_aload_n dX6_count_59 rfl <|
 x_getf (v := .int (gi σ 4002)) fl_X6_67 rfl rfl rfl dX6_count_60 <|
 x_goto (tgt := 67) dX6_count_63 (by decide) <|
 x_ireturn rfl dX6_count_67 ⟨_, rfl, (((((h.1 c1).1 c2).1 c3).1 c4).2 c5)⟩)) (fun c4 => x_aload_n dX6_count_45 rfl <|
 x_getf (v := .ref 45) fl_X6_23 rfl rfl rfl dX6_count_46 <|
 x_iconst dX6_count_49 ic_0 <|
 x_iaload (v := ((gm σ 45) 0)) rfl (vpd (by decide)) rfl dX6_count_50 <|
 x_goto (tgt := 67) dX6_count_51 (by decide) <|
 x_ireturn rfl dX6_count_67 ⟨_, rfl, ((((h.1 c1).1 c2).1 c3).2 c4)⟩)) (fun c3 => x_aload_n dX6_count_32 rfl <|
 x_iconst dX6_count_33 ic_0 <|
 x_callV (b := 40) (As := [.int (0 : Int32)]) ok_X6_maybesIn ml_X6_103 (okM (by decide)) dX6_count_34 rfl rfl (Nat.le_of_ble_eq_true rfl) rfl rfl rfl (((h.1 c1).1 c2).2 c3) <|
 (kI (fun τ6 r7 h8 => x_goto (tgt := 67) dX6_count_37 (by decide) <|
 x_ireturn rfl dX6_count_67 ⟨_, rfl, h8⟩)))) (fun c2 => x_aload_n dX6_count_18 rfl <|
 x_getf (v := .ref 44) fl_X6_20 rfl rfl rfl dX6_count_19 <|
 x_iconst dX6_count_22 ic_0 <|
 x_iaload (v := ((gm σ 44) 0)) rfl (vpd (by decide)) rfl dX6_count_23 <|
 x_goto (tgt := 67) dX6_count_24 (by decide) <|
 x_ireturn rfl dX6_count_67 ⟨_, rfl, ((h.1 c1).2 c2)⟩)) (fun c1 => x_aload_n dX6_count_4 rfl <|
 x_getf (v := .ref 42) fl_X6_13 rfl rfl rfl dX6_count_5 <|
 x_iconst dX6_count_8 ic_0 <|
 x_iaload (v := ((gm σ 42) 0)) rfl (vpd (by decide)) rfl dX6_count_9 <|
 x_goto (tgt := 67) dX6_count_10 (by decide) <|
 x_ireturn rfl dX6_count_67 ⟨_, rfl, (h.2 c1)⟩)
set_option maxRecDepth 100000 in
set_option maxHeartbeats 4000000 in
theorem M_X6_trace {E : EV} {Q : Sg → Int64 → Prop} {σ : Sg} (h : Q σ (gl σ 4000)) : MetL E mi_X6_trace [.ref 40] σ Q :=
 met_of (L := [some (.ref 40)]) pn_X6 rfl (Nat.le_of_ble_eq_true rfl) <|
 x_aload_n dX6_trace_0 rfl <|
 x_getf (v := .long (gl σ 4000)) fl_X6_202 rfl rfl rfl dX6_trace_1 <|
 x_lreturn rfl dX6_trace_4 ⟨_, rfl, h⟩
