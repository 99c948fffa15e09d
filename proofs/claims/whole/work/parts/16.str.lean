/-! the six texts: length() and charAt(k) -/
section STRS
variable {E : EV} {mi : MI} {T : Tgt} {pc : Nat} {L : List (Option Value)} {st : List Value} {σ : Sg}
theorem x_strv {i : Nat} (hi : i < 6) (ho : mi.1.cls = "java/lang/String") (hd : decode mi.2.1 pc = .ok (.getfield 9, 3)) (k : J E mi T (pc + 3) L (.ref (910 + i) :: st) σ) : J E mi T pc L (.ref (900 + i) :: st) σ := by
  intro p l e s m args below meth c C H locs ls hP hS hl
  obtain ⟨hx, hb, hml, hown, hts, hK, hI, hA, hStr, hX⟩ := id C
  exact vk_getf (own := mi.1.cls) (ref := "java/lang/String") hx hb (hStr.1.1 i hi).2.2.1 hS hown (hts _ (by rw [ho]; exact bg 973 (by decide +kernel) (by decide +kernel))) (fun _ h => h) hd (k p l e s m args below meth c C H locs ls hP hS hl)
theorem x_strc {i : Nat} (hi : i < 6) (ho : mi.1.cls = "java/lang/String") (hd : decode mi.2.1 pc = .ok (.getfield 15, 3)) (k : J E mi T (pc + 3) L (.int 0 :: st) σ) : J E mi T pc L (.ref (900 + i) :: st) σ := by
  intro p l e s m args below meth c C H locs ls hP hS hl
  obtain ⟨hx, hb, hml, hown, hts, hK, hI, hA, hStr, hX⟩ := id C
  exact vk_getf (own := mi.1.cls) (ref := "java/lang/String") hx hb (hStr.1.1 i hi).2.1 hS hown (hts _ (by rw [ho]; exact bg 974 (by decide +kernel) (by decide +kernel))) (fun _ h => h) hd (k p l e s m args below meth c C H locs ls hP hS hl)
theorem x_compact (ho : mi.1.cls = "java/lang/String") (hd : decode mi.2.1 pc = .ok (.getstatic 38, 3)) (k : J E mi T (pc + 3) L (.int 1 :: st) σ) : J E mi T pc L st σ := by
  intro p l e s m args below meth c C H locs ls hP hS hl
  obtain ⟨hx, hb, hml, hown, hts, hK, hI, hA, hStr, hX⟩ := id C
  exact va_gets (own := mi.1.cls) (ref := "java/lang/String") hx hb hStr.2.2.1 hS hown (hts _ (by rw [ho]; exact bg 324 (by decide +kernel) (by decide +kernel))) (fun _ h => h) hd (k p l e s m args below meth c C H locs ls hP hS hl)
theorem x_sioobe (ho : mi.1.cls = "java/lang/String") (hd : decode mi.2.1 pc = .ok (.getstatic 1053, 3)) (k : ∀ v, v = Value.null ∨ v = .ref 990 → J E mi T (pc + 3) L (v :: st) σ) : J E mi T pc L st σ := by
  intro p l e s m args below meth c C H locs ls hP hS hl
  obtain ⟨hx, hb, hml, hown, hts, hK, hI, hA, hStr, hX⟩ := id C
  have hw : Cond.fieldLink mi.1.cls 1053 "jdk/internal/util/Preconditions" "SIOOBE_FORMATTER" "Ljava/util/function/BiFunction;" ∈ Big := by rw [ho]; exact bg 340 (by decide +kernel) (by decide +kernel)
  rcases hStr.2.2.2 with h | h
  · exact va_gets (own := mi.1.cls) (ref := "jdk/internal/util/Preconditions") hx hb h hS hown (hts _ hw) (fun _ h => h) hd (k .null (Or.inl rfl) p l e s m args below meth c C H locs ls hP hS hl)
  · exact va_gets (own := mi.1.cls) (ref := "jdk/internal/util/Preconditions") hx hb h hS hown (hts _ hw) (fun _ h => h) hd (k (.ref 990) (Or.inr rfl) p l e s m args below meth c C H locs ls hP hS hl)
theorem x_strlen {i : Nat} (hi : i < 6) (hd : decode mi.2.1 pc = .ok (.arraylength, 1)) (k : J E mi T (pc + 1) L (.int (nI (slen.getD i 0)) :: st) σ) : J E mi T pc L (.ref (910 + i) :: st) σ := by
  intro p l e s m args below meth c C H locs ls hP hS hl
  obtain ⟨hx, hb, hml, hown, hts, hK, hI, hA, hStr, hX⟩ := id C
  exact va_tlen hx hb (hStr.1.1 i hi).2.2.2 hS rfl hd (k p l e s m args below meth c C H locs ls hP hS hl)
theorem x_strb {i : Nat} {j : Int32} (hi : i < 6) (hin : vp_in j (slen.getD i 0)) (hd : decode mi.2.1 pc = .ok (.baload, 1)) (k : J E mi T (pc + 1) L (.int ((sbyt.getD i []).getD j.toNatClampNeg 0) :: st) σ) : J E mi T pc L (.int j :: .ref (910 + i) :: st) σ := by
  intro p l e s m args below meth c C H locs ls hP hS hl
  obtain ⟨hx, hb, hml, hown, hts, hK, hI, hA, hStr, hX⟩ := id C
  exact va_tb hx hb (hStr.1.1 i hi).2.2.2 hS hin rfl hd (k p l e s m args below meth c C H locs ls hP hS hl)
theorem x_treturn {Qf : Sg → Option Value → Prop} {v : Int32} {ty : FieldType} (hr : mi.2.2.2.1 = some ty) (hz : narrow ty (.int v) = .int v) (hd : decode mi.2.1 pc = .ok (.ireturn, 1)) (h : Qf σ (some (.int v))) : J E mi (tgM E mi Qf) pc L [.int v] σ := by
  intro p l e s m args below meth c C H locs ls hP hS hl
  obtain ⟨hx, hb, hml, hown, hts, hK, hI, hA, hStr, ⟨hX, hlk⟩⟩ := id C
  exact W.zret (ty := ty) hx hb (hX.trans hr) hz (fun t ht hW => ⟨⟨σ, some (.int v), rfl, h, by rw [ht]; exact hP⟩, hS.F ht⟩) hS.2.2 hd hlk
end STRS
theorem M_str_coder {E : EV} {Q : Sg → Int32 → Prop} {σ : Sg} {i : Nat} (hi : i < 6) (h : Q σ 0) : MetI E mi_J0_coder_7d493 [.ref (900 + i)] σ Q :=
  met_of (L := [some (.ref (900 + i))]) pn_J0 rfl (Nat.le_of_ble_eq_true rfl) <|
  x_compact rfl dJ0_coder_7d493_0 <| x_if_eq (tgt := 13) dJ0_coder_7d493_3 (by decide) (fun c => absurd c (by decide)) (fun _ =>
  x_aload_n dJ0_coder_7d493_6 rfl <| x_strc hi rfl dJ0_coder_7d493_7 <| x_goto (tgt := 14) dJ0_coder_7d493_10 (by decide) <|
  x_treturn rfl (by decide) dJ0_coder_7d493_14 ⟨_, rfl, h⟩)
theorem M_str_latin {E : EV} {Q : Sg → Int32 → Prop} {σ : Sg} {i : Nat} (hi : i < 6) (h : Q σ 1) : MetI E mi_J0_isLatin1_aae02 [.ref (900 + i)] σ Q :=
  met_of (L := [some (.ref (900 + i))]) pn_J0 rfl (Nat.le_of_ble_eq_true rfl) <|
  x_compact rfl dJ0_isLatin1_aae02_0 <| x_if_eq (tgt := 17) dJ0_isLatin1_aae02_3 (by decide) (fun c => absurd c (by decide)) (fun _ =>
  x_aload_n dJ0_isLatin1_aae02_6 rfl <| x_strc hi rfl dJ0_isLatin1_aae02_7 <| x_if_ne (tgt := 17) dJ0_isLatin1_aae02_10 (by decide) (fun c => absurd rfl c) (fun _ =>
  x_iconst dJ0_isLatin1_aae02_13 ic_1 <| x_goto (tgt := 18) dJ0_isLatin1_aae02_14 (by decide) <|
  x_treturn rfl (by decide) dJ0_isLatin1_aae02_18 ⟨_, rfl, h⟩))
theorem M_str_length {E : EV} {Q : Sg → Int32 → Prop} {σ : Sg} {i : Nat} (hi : i < 6) (h : Q σ (nI (slen.getD i 0))) : MetI E mi_J0_length_8abf5 [.ref (900 + i)] σ Q :=
  met_of (L := [some (.ref (900 + i))]) pn_J0 rfl (Nat.le_of_ble_eq_true rfl) <|
  x_aload_n dJ0_length_8abf5_0 rfl <| x_strv hi rfl dJ0_length_8abf5_1 <| x_strlen hi dJ0_length_8abf5_4 <| x_aload_n dJ0_length_8abf5_5 rfl <|
  x_callT (i := i) (As := []) ok_J0_coder_7d493 rfl ml_J0_335 (okM (by decide)) dJ0_length_8abf5_6 hi rfl rfl (Nat.le_of_ble_eq_true rfl) (M_str_coder (Q := fun τ r => τ = σ ∧ r = 0) hi ⟨rfl, rfl⟩) (kI fun τ r h1 => by
  obtain ⟨rfl, rfl⟩ := h1
  refine x_ishr dJ0_length_8abf5_9 ?_
  rw [show nI (slen.getD i 0) >>> ((0 : Int32) &&& 31) = nI (slen.getD i 0) from by
    match i, hi with
    | 0, _ => decide
    | 1, _ => decide
    | 2, _ => decide
    | 3, _ => decide
    | 4, _ => decide
    | 5, _ => decide]
  exact x_ireturn rfl dJ0_length_8abf5_10 ⟨_, rfl, h⟩)
theorem M_str_pre {E : EV} {Q : Sg → Int32 → Prop} {σ : Sg} {k n : Int32} {v : Value} (hv : v = .null ∨ v = .ref 990) (h0 : ¬ k < 0) (h1 : k < n) (h : Q σ k) : MetI E mi_J3_checkIndex_8e157 [.int k, .int n, v] σ Q := by
  have hc : v.category = 1 := by rcases hv with rfl | rfl <;> rfl
  refine met_of (L := [some (.int k), some (.int n), some v]) pn_J3 ?_ ?_ ?_
  · rcases hv with rfl | rfl <;> rfl
  · rcases hv with rfl | rfl <;> exact Nat.le_of_ble_eq_true rfl
  · exact x_iload_n dJ3_checkIndex_8e157_0 rfl <| x_if_lt (tgt := 9) dJ3_checkIndex_8e157_1 (by decide) (fun c => absurd c h0) (fun _ =>
      x_iload_n dJ3_checkIndex_8e157_4 rfl <| x_iload_n dJ3_checkIndex_8e157_5 rfl <| x_icmp_lt (tgt := 16) dJ3_checkIndex_8e157_6 (by decide) (fun _ =>
      x_iload_n dJ3_checkIndex_8e157_16 rfl <| x_ireturn rfl dJ3_checkIndex_8e157_17 ⟨_, rfl, h⟩) (fun c => absurd h1 c))
theorem M_str_chk {E : EV} {Q : Sg → Prop} {σ : Sg} {k n : Int32} (h0 : ¬ k < 0) (h1 : k < n) (h : Q σ) : MetV E mi_J0_checkIndex_df160 [.int k, .int n] σ Q :=
  met_of (L := [some (.int k), some (.int n)]) pn_J0 rfl (Nat.le_of_ble_eq_true rfl) <|
  x_iload_n dJ0_checkIndex_df160_0 rfl <| x_iload_n dJ0_checkIndex_df160_1 rfl <| x_sioobe rfl dJ0_checkIndex_df160_2 (fun v hv =>
  x_callS (As := [.int k, .int n, v]) (st := []) ok_J3_checkIndex_8e157 ml_J0_1059 (okM (by decide)) dJ0_checkIndex_df160_5 rfl rfl (Nat.le_of_ble_eq_true rfl) (M_str_pre (Q := fun τ _ => τ = σ) hv h0 h1 rfl) (kI fun τ r h2 => by
  subst h2
  exact x_pop dJ0_checkIndex_df160_8 rfl <| x_return rfl dJ0_checkIndex_df160_9 ⟨rfl, h⟩))
theorem M_str_lat {E : EV} {Q : Sg → Int32 → Prop} {σ : Sg} {i k : Nat} (hi : i < 6) (hk : k < slen.getD i 0) (hl : slen.getD i 0 < 100) (hv : (((sbyt.getD i []).getD k 0 &&& 255).toUInt32 % 65536).toInt32 = (sbyt.getD i []).getD k 0) (h : Q σ ((sbyt.getD i []).getD k 0)) : MetI E mi_J1_charAt_3b067 [.ref (910 + i), .int (nI k)] σ Q :=
  met_of (L := [some (.ref (910 + i)), some (.int (nI k))]) pn_J1 rfl (Nat.le_of_ble_eq_true rfl) <|
  x_iload_n dJ1_charAt_3b067_0 rfl <| x_aload_n dJ1_charAt_3b067_1 rfl <| x_strlen hi dJ1_charAt_3b067_2 <|
  x_callS (As := [.int (nI k), .int (nI (slen.getD i 0))]) (st := []) ok_J0_checkIndex_df160 ml_J1_9 (okM (by decide)) dJ1_charAt_3b067_3 rfl rfl (Nat.le_of_ble_eq_true rfl) (M_str_chk (Q := fun τ => τ = σ) (nI_pos (by omega)) (nI_lt hk (by omega)) rfl) (kV fun τ h2 => by
  subst h2
  refine x_aload_n dJ1_charAt_3b067_6 rfl <| x_iload_n dJ1_charAt_3b067_7 rfl <| x_strb hi (vp_in_nI hk (by omega)) dJ1_charAt_3b067_8 <| x_sipush dJ1_charAt_3b067_9 sp_255 <| x_iand dJ1_charAt_3b067_12 <| x_i2c dJ1_charAt_3b067_13 ?_
  rw [nI_clamp (by omega : k < 2 ^ 31)]
  exact x_treturn rfl (pk_nc _) dJ1_charAt_3b067_14 ⟨_, rfl, by rw [hv]; exact h⟩)
theorem str_fin : ∀ i, i < 6 → ∀ k, k < slen.getD i 0 → slen.getD i 0 < 100 ∧ (((sbyt.getD i []).getD k 0 &&& 255).toUInt32 % 65536).toInt32 = (sbyt.getD i []).getD k 0 ∧ narrow .char (.int ((sbyt.getD i []).getD k 0)) = .int ((sbyt.getD i []).getD k 0) := by decide +kernel
theorem M_str_charAt {E : EV} {Q : Sg → Int32 → Prop} {σ : Sg} {i k : Nat} (hi : i < 6) (hk : k < slen.getD i 0) (h : Q σ ((sbyt.getD i []).getD k 0)) : MetI E mi_J0_charAt_5068e [.ref (900 + i), .int (nI k)] σ Q :=
  met_of (L := [some (.ref (900 + i)), some (.int (nI k))]) pn_J0 rfl (Nat.le_of_ble_eq_true rfl) <|
  x_aload_n dJ0_charAt_5068e_0 rfl <|
  x_callT (i := i) (As := []) (st := []) ok_J0_isLatin1_aae02 rfl ml_J0_492 (okM (by decide)) dJ0_charAt_5068e_1 hi rfl rfl (Nat.le_of_ble_eq_true rfl) (M_str_latin (Q := fun τ r => τ = σ ∧ r = 1) hi ⟨rfl, rfl⟩) (kI fun τ r h1 => by
  obtain ⟨rfl, rfl⟩ := h1
  exact x_if_eq (tgt := 16) dJ0_charAt_5068e_4 (by decide) (fun c => absurd c (by decide)) (fun _ =>
    x_aload_n dJ0_charAt_5068e_7 rfl <| x_strv hi rfl dJ0_charAt_5068e_8 <| x_iload_n dJ0_charAt_5068e_11 rfl <|
    x_callS (As := [.ref (910 + i), .int (nI k)]) (st := []) ok_J1_charAt_3b067 ml_J0_495 (okM (by decide)) dJ0_charAt_5068e_12 rfl rfl (Nat.le_of_ble_eq_true rfl) (M_str_lat (Q := fun t r => t = τ ∧ r = (sbyt.getD i []).getD k 0) hi hk (str_fin i hi k hk).1 (str_fin i hi k hk).2.1 ⟨rfl, rfl⟩) (kI fun t r h2 => by
    obtain ⟨rfl, rfl⟩ := h2
    exact x_treturn rfl (str_fin i hi k hk).2.2 dJ0_charAt_5068e_15 ⟨_, rfl, h⟩)))
