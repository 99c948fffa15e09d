/-! ===== the class: people and events ===== -/
theorem mb_app {l m : List Ev} {k : Nat} (h : k < l.length) : mb (l ++ m) k = mb l k := by
  simp only [mb, ge_app h, List.take_append_of_le_length (Nat.le_of_lt h)]
theorem mb_last {l : List Ev} {e : Ev} : mb (l ++ [e]) l.length = if e.1 = 1 then (1 : Int32) <<< (nI (mc l) &&& 31) else 0 := by
  simp only [mb, ge_last, List.take_left]
theorem mb_take {l : List Ev} {k m : Nat} (h : k < m) : mb (l.take m) k = mb l k := by
  simp only [mb, ge_take h, List.take_take, Nat.min_eq_left (Nat.le_of_lt h)]
theorem C_knows_3 {E : EV} {Q : Sg → Int32 → Prop} {σ : Sg} {n : Nat} {a : Int32} (hn : gi σ 301 = nI n) (hb : n ≤ 8) (hq : Q σ (bi (0 ≤ a.toInt ∧ a.toInt < (n : Int)))) : MetI E mi_X1_knows [.ref 3, .int a] σ Q := by
  have e := nIt (n := n) (by omega)
  refine M_X1_knows_3 ⟨fun h => ?_, fun h => ⟨fun h2 => ?_, fun h2 => ?_⟩⟩
  · simp only [Int32.lt_iff_toInt_lt, Int32.le_iff_toInt_le, ← Int32.toInt_inj, iv_m9, iv_m3, iv_m2, iv_m1, iv_0, iv_1, iv_2, iv_3, iv_4, iv_5, iv_6, iv_7, iv_8, iv_9, iv_32, iv_40, iv_99, iv_100, iv_400] at h; exact q0 hq (by omega)
  · rw [hn] at h2; simp only [Int32.lt_iff_toInt_lt, Int32.le_iff_toInt_le, ← Int32.toInt_inj, iv_m9, iv_m3, iv_m2, iv_m1, iv_0, iv_1, iv_2, iv_3, iv_4, iv_5, iv_6, iv_7, iv_8, iv_9, iv_32, iv_40, iv_99, iv_100, iv_400, e] at h h2; exact q0 hq (by omega)
  · rw [hn] at h2; simp only [Int32.lt_iff_toInt_lt, Int32.le_iff_toInt_le, ← Int32.toInt_inj, iv_m9, iv_m3, iv_m2, iv_m1, iv_0, iv_1, iv_2, iv_3, iv_4, iv_5, iv_6, iv_7, iv_8, iv_9, iv_32, iv_40, iv_99, iv_100, iv_400, e] at h h2; exact q1 hq (by omega)
theorem C_allows_3 {E : EV} {Q : Sg → Int32 → Prop} {σ : Sg} {n : Nat} {s a b : Int32} (hn : gi σ 301 = nI n) (hb : n ≤ 8) (hs : 0 ≤ s.toInt ∧ s.toInt ≤ 4) (hq : Q σ (bi ((s.toInt ≤ 1 → (0 ≤ b.toInt ∧ b.toInt < n) ∧ b.toInt ≠ a.toInt) ∧ (2 ≤ s.toInt → 0 ≤ b.toInt ∧ b.toInt < 4)))) : MetI E mi_X1_allows [.ref 3, .int s, .int a, .int b] σ Q := by
  refine M_X1_allows_3 ⟨fun h => C_knows_3 hn hb ⟨fun r => ?_, fun r => ⟨fun h2 => ?_, fun h2 => ?_⟩⟩, fun h => ⟨fun h2 => ⟨fun h3 => ?_, fun h3 => ⟨fun h4 => ⟨fun h5 => ?_, fun h5 => ?_⟩, fun h4 => ⟨fun h5 => ?_, fun h5 => ?_⟩⟩⟩, fun h2 => C_knows_3 hn hb ⟨fun r => ?_, fun r => ⟨fun h3 => ?_, fun h3 => ?_⟩⟩⟩⟩
  · rw [bi_0] at r; simp only [Int32.lt_iff_toInt_lt, Int32.le_iff_toInt_le, ← Int32.toInt_inj, iv_m9, iv_m3, iv_m2, iv_m1, iv_0, iv_1, iv_2, iv_3, iv_4, iv_5, iv_6, iv_7, iv_8, iv_9, iv_32, iv_40, iv_99, iv_100, iv_400] at h; exact q0 hq (fun q => r (q.1 (by omega)).1)
  · rw [bi_n0] at r; simp only [Int32.lt_iff_toInt_lt, Int32.le_iff_toInt_le, ← Int32.toInt_inj, iv_m9, iv_m3, iv_m2, iv_m1, iv_0, iv_1, iv_2, iv_3, iv_4, iv_5, iv_6, iv_7, iv_8, iv_9, iv_32, iv_40, iv_99, iv_100, iv_400] at h h2; exact q0 hq (fun q => (q.1 (by omega)).2 h2)
  · rw [bi_n0] at r; simp only [Int32.lt_iff_toInt_lt, Int32.le_iff_toInt_le, ← Int32.toInt_inj, iv_m9, iv_m3, iv_m2, iv_m1, iv_0, iv_1, iv_2, iv_3, iv_4, iv_5, iv_6, iv_7, iv_8, iv_9, iv_32, iv_40, iv_99, iv_100, iv_400] at h h2; exact q1 hq ⟨fun _ => ⟨r, h2⟩, fun q => by omega⟩
  · simp only [Int32.lt_iff_toInt_lt, Int32.le_iff_toInt_le, ← Int32.toInt_inj, iv_m9, iv_m3, iv_m2, iv_m1, iv_0, iv_1, iv_2, iv_3, iv_4, iv_5, iv_6, iv_7, iv_8, iv_9, iv_32, iv_40, iv_99, iv_100, iv_400] at h h2 h3; exact q0 hq (fun q => by have := q.2 (by omega); omega)
  · simp only [Int32.lt_iff_toInt_lt, Int32.le_iff_toInt_le, ← Int32.toInt_inj, iv_m9, iv_m3, iv_m2, iv_m1, iv_0, iv_1, iv_2, iv_3, iv_4, iv_5, iv_6, iv_7, iv_8, iv_9, iv_32, iv_40, iv_99, iv_100, iv_400] at h h2 h3 h4 h5; exact q0 hq (fun q => by have := q.2 (by omega); omega)
  · simp only [Int32.lt_iff_toInt_lt, Int32.le_iff_toInt_le, ← Int32.toInt_inj, iv_m9, iv_m3, iv_m2, iv_m1, iv_0, iv_1, iv_2, iv_3, iv_4, iv_5, iv_6, iv_7, iv_8, iv_9, iv_32, iv_40, iv_99, iv_100, iv_400] at h h2 h3 h4 h5; exact q1 hq ⟨fun q => by omega, fun _ => by omega⟩
  · simp only [Int32.lt_iff_toInt_lt, Int32.le_iff_toInt_le, ← Int32.toInt_inj, iv_m9, iv_m3, iv_m2, iv_m1, iv_0, iv_1, iv_2, iv_3, iv_4, iv_5, iv_6, iv_7, iv_8, iv_9, iv_32, iv_40, iv_99, iv_100, iv_400] at h h2 h3 h4 h5; exact q0 hq (fun q => by have := q.2 (by omega); omega)
  · simp only [Int32.lt_iff_toInt_lt, Int32.le_iff_toInt_le, ← Int32.toInt_inj, iv_m9, iv_m3, iv_m2, iv_m1, iv_0, iv_1, iv_2, iv_3, iv_4, iv_5, iv_6, iv_7, iv_8, iv_9, iv_32, iv_40, iv_99, iv_100, iv_400] at h h2 h3 h4 h5; exact q1 hq ⟨fun q => by omega, fun _ => by omega⟩
  · rw [bi_0] at r; simp only [Int32.lt_iff_toInt_lt, Int32.le_iff_toInt_le, ← Int32.toInt_inj, iv_m9, iv_m3, iv_m2, iv_m1, iv_0, iv_1, iv_2, iv_3, iv_4, iv_5, iv_6, iv_7, iv_8, iv_9, iv_32, iv_40, iv_99, iv_100, iv_400] at h2; exact q0 hq (fun q => r (q.1 (by omega)).1)
  · rw [bi_n0] at r; simp only [Int32.lt_iff_toInt_lt, Int32.le_iff_toInt_le, ← Int32.toInt_inj, iv_m9, iv_m3, iv_m2, iv_m1, iv_0, iv_1, iv_2, iv_3, iv_4, iv_5, iv_6, iv_7, iv_8, iv_9, iv_32, iv_40, iv_99, iv_100, iv_400] at h2 h3; exact q0 hq (fun q => (q.1 (by omega)).2 h3)
  · rw [bi_n0] at r; simp only [Int32.lt_iff_toInt_lt, Int32.le_iff_toInt_le, ← Int32.toInt_inj, iv_m9, iv_m3, iv_m2, iv_m1, iv_0, iv_1, iv_2, iv_3, iv_4, iv_5, iv_6, iv_7, iv_8, iv_9, iv_32, iv_40, iv_99, iv_100, iv_400] at h2 h3; exact q1 hq ⟨fun _ => ⟨r, h3⟩, fun q => by omega⟩
theorem C_knows_12 {E : EV} {Q : Sg → Int32 → Prop} {σ : Sg} {n : Nat} {a : Int32} (hn : gi σ 1201 = nI n) (hb : n ≤ 8) (hq : Q σ (bi (0 ≤ a.toInt ∧ a.toInt < (n : Int)))) : MetI E mi_X1_knows [.ref 12, .int a] σ Q := by
  have e := nIt (n := n) (by omega)
  refine M_X1_knows_12 ⟨fun h => ?_, fun h => ⟨fun h2 => ?_, fun h2 => ?_⟩⟩
  · simp only [Int32.lt_iff_toInt_lt, Int32.le_iff_toInt_le, ← Int32.toInt_inj, iv_m9, iv_m3, iv_m2, iv_m1, iv_0, iv_1, iv_2, iv_3, iv_4, iv_5, iv_6, iv_7, iv_8, iv_9, iv_32, iv_40, iv_99, iv_100, iv_400] at h; exact q0 hq (by omega)
  · rw [hn] at h2; simp only [Int32.lt_iff_toInt_lt, Int32.le_iff_toInt_le, ← Int32.toInt_inj, iv_m9, iv_m3, iv_m2, iv_m1, iv_0, iv_1, iv_2, iv_3, iv_4, iv_5, iv_6, iv_7, iv_8, iv_9, iv_32, iv_40, iv_99, iv_100, iv_400, e] at h h2; exact q0 hq (by omega)
  · rw [hn] at h2; simp only [Int32.lt_iff_toInt_lt, Int32.le_iff_toInt_le, ← Int32.toInt_inj, iv_m9, iv_m3, iv_m2, iv_m1, iv_0, iv_1, iv_2, iv_3, iv_4, iv_5, iv_6, iv_7, iv_8, iv_9, iv_32, iv_40, iv_99, iv_100, iv_400, e] at h h2; exact q1 hq (by omega)
theorem C_allows_12 {E : EV} {Q : Sg → Int32 → Prop} {σ : Sg} {n : Nat} {s a b : Int32} (hn : gi σ 1201 = nI n) (hb : n ≤ 8) (hs : 0 ≤ s.toInt ∧ s.toInt ≤ 4) (hq : Q σ (bi ((s.toInt ≤ 1 → (0 ≤ b.toInt ∧ b.toInt < n) ∧ b.toInt ≠ a.toInt) ∧ (2 ≤ s.toInt → 0 ≤ b.toInt ∧ b.toInt < 4)))) : MetI E mi_X1_allows [.ref 12, .int s, .int a, .int b] σ Q := by
  refine M_X1_allows_12 ⟨fun h => C_knows_12 hn hb ⟨fun r => ?_, fun r => ⟨fun h2 => ?_, fun h2 => ?_⟩⟩, fun h => ⟨fun h2 => ⟨fun h3 => ?_, fun h3 => ⟨fun h4 => ⟨fun h5 => ?_, fun h5 => ?_⟩, fun h4 => ⟨fun h5 => ?_, fun h5 => ?_⟩⟩⟩, fun h2 => C_knows_12 hn hb ⟨fun r => ?_, fun r => ⟨fun h3 => ?_, fun h3 => ?_⟩⟩⟩⟩
  · rw [bi_0] at r; simp only [Int32.lt_iff_toInt_lt, Int32.le_iff_toInt_le, ← Int32.toInt_inj, iv_m9, iv_m3, iv_m2, iv_m1, iv_0, iv_1, iv_2, iv_3, iv_4, iv_5, iv_6, iv_7, iv_8, iv_9, iv_32, iv_40, iv_99, iv_100, iv_400] at h; exact q0 hq (fun q => r (q.1 (by omega)).1)
  · rw [bi_n0] at r; simp only [Int32.lt_iff_toInt_lt, Int32.le_iff_toInt_le, ← Int32.toInt_inj, iv_m9, iv_m3, iv_m2, iv_m1, iv_0, iv_1, iv_2, iv_3, iv_4, iv_5, iv_6, iv_7, iv_8, iv_9, iv_32, iv_40, iv_99, iv_100, iv_400] at h h2; exact q0 hq (fun q => (q.1 (by omega)).2 h2)
  · rw [bi_n0] at r; simp only [Int32.lt_iff_toInt_lt, Int32.le_iff_toInt_le, ← Int32.toInt_inj, iv_m9, iv_m3, iv_m2, iv_m1, iv_0, iv_1, iv_2, iv_3, iv_4, iv_5, iv_6, iv_7, iv_8, iv_9, iv_32, iv_40, iv_99, iv_100, iv_400] at h h2; exact q1 hq ⟨fun _ => ⟨r, h2⟩, fun q => by omega⟩
  · simp only [Int32.lt_iff_toInt_lt, Int32.le_iff_toInt_le, ← Int32.toInt_inj, iv_m9, iv_m3, iv_m2, iv_m1, iv_0, iv_1, iv_2, iv_3, iv_4, iv_5, iv_6, iv_7, iv_8, iv_9, iv_32, iv_40, iv_99, iv_100, iv_400] at h h2 h3; exact q0 hq (fun q => by have := q.2 (by omega); omega)
  · simp only [Int32.lt_iff_toInt_lt, Int32.le_iff_toInt_le, ← Int32.toInt_inj, iv_m9, iv_m3, iv_m2, iv_m1, iv_0, iv_1, iv_2, iv_3, iv_4, iv_5, iv_6, iv_7, iv_8, iv_9, iv_32, iv_40, iv_99, iv_100, iv_400] at h h2 h3 h4 h5; exact q0 hq (fun q => by have := q.2 (by omega); omega)
  · simp only [Int32.lt_iff_toInt_lt, Int32.le_iff_toInt_le, ← Int32.toInt_inj, iv_m9, iv_m3, iv_m2, iv_m1, iv_0, iv_1, iv_2, iv_3, iv_4, iv_5, iv_6, iv_7, iv_8, iv_9, iv_32, iv_40, iv_99, iv_100, iv_400] at h h2 h3 h4 h5; exact q1 hq ⟨fun q => by omega, fun _ => by omega⟩
  · simp only [Int32.lt_iff_toInt_lt, Int32.le_iff_toInt_le, ← Int32.toInt_inj, iv_m9, iv_m3, iv_m2, iv_m1, iv_0, iv_1, iv_2, iv_3, iv_4, iv_5, iv_6, iv_7, iv_8, iv_9, iv_32, iv_40, iv_99, iv_100, iv_400] at h h2 h3 h4 h5; exact q0 hq (fun q => by have := q.2 (by omega); omega)
  · simp only [Int32.lt_iff_toInt_lt, Int32.le_iff_toInt_le, ← Int32.toInt_inj, iv_m9, iv_m3, iv_m2, iv_m1, iv_0, iv_1, iv_2, iv_3, iv_4, iv_5, iv_6, iv_7, iv_8, iv_9, iv_32, iv_40, iv_99, iv_100, iv_400] at h h2 h3 h4 h5; exact q1 hq ⟨fun q => by omega, fun _ => by omega⟩
  · rw [bi_0] at r; simp only [Int32.lt_iff_toInt_lt, Int32.le_iff_toInt_le, ← Int32.toInt_inj, iv_m9, iv_m3, iv_m2, iv_m1, iv_0, iv_1, iv_2, iv_3, iv_4, iv_5, iv_6, iv_7, iv_8, iv_9, iv_32, iv_40, iv_99, iv_100, iv_400] at h2; exact q0 hq (fun q => r (q.1 (by omega)).1)
  · rw [bi_n0] at r; simp only [Int32.lt_iff_toInt_lt, Int32.le_iff_toInt_le, ← Int32.toInt_inj, iv_m9, iv_m3, iv_m2, iv_m1, iv_0, iv_1, iv_2, iv_3, iv_4, iv_5, iv_6, iv_7, iv_8, iv_9, iv_32, iv_40, iv_99, iv_100, iv_400] at h2 h3; exact q0 hq (fun q => (q.1 (by omega)).2 h3)
  · rw [bi_n0] at r; simp only [Int32.lt_iff_toInt_lt, Int32.le_iff_toInt_le, ← Int32.toInt_inj, iv_m9, iv_m3, iv_m2, iv_m1, iv_0, iv_1, iv_2, iv_3, iv_4, iv_5, iv_6, iv_7, iv_8, iv_9, iv_32, iv_40, iv_99, iv_100, iv_400] at h2 h3; exact q1 hq ⟨fun _ => ⟨r, h3⟩, fun q => by omega⟩
theorem EvC.add {σ τ : Sg} {o : Nat} {t : Tl} {e : Ev} (h : EvC σ o t) (he : e.2.1 = t.2) (h5 : gi τ (100 * o + 5) = nI (t.1.length + 1)) (h6 : gi τ (100 * o + 6) = nI (mc t.1 + if e.1 = 1 then 1 else 0)) (h7 : gi τ (100 * o + 7) = nI t.2)
    (m1 : gm τ (o + 1) = upd (gm σ (o + 1)) t.1.length (nI e.1)) (m2 : gm τ (o + 2) = upd (gm σ (o + 2)) t.1.length (nI t.2)) (m3 : gm τ (o + 3) = upd (gm σ (o + 3)) t.1.length (nI e.2.2.1)) (m4 : gm τ (o + 4) = upd (gm σ (o + 4)) t.1.length (nI e.2.2.2)) (m5 : gm τ (o + 5) = upd (gm σ (o + 5)) t.1.length (if e.1 = 1 then (1 : Int32) <<< (nI (mc t.1) &&& 31) else 0)) : EvC τ o (t.1 ++ [e], t.2) := by
  obtain ⟨a5, a6, a7, ak⟩ := h
  refine ⟨by rw [h5, List.length_append]; rfl, by rw [h6]; show _ = nI (mc (t.1 ++ [e])); rw [mc_app, mc_one], h7, fun k hk => ?_⟩
  have hk : k < t.1.length + 1 := by have := hk; rw [List.length_append] at this; exact this
  rw [m1, m2, m3, m4, m5]
  rcases Nat.lt_or_ge k t.1.length with q | q
  · rw [upd_n (by omega), upd_n (by omega), upd_n (by omega), upd_n (by omega), upd_n (by omega)]
    show _ = nI (ge (t.1 ++ [e]) k).1 ∧ _ = nI (ge (t.1 ++ [e]) k).2.1 ∧ _ = nI (ge (t.1 ++ [e]) k).2.2.1 ∧ _ = nI (ge (t.1 ++ [e]) k).2.2.2 ∧ _ = mb (t.1 ++ [e]) k
    rw [ge_app q, mb_app q]
    exact ak k q
  · obtain rfl : k = t.1.length := by omega
    rw [upd_s, upd_s, upd_s, upd_s, upd_s]
    show _ = nI (ge (t.1 ++ [e]) t.1.length).1 ∧ _ = nI (ge (t.1 ++ [e]) t.1.length).2.1 ∧ _ = nI (ge (t.1 ++ [e]) t.1.length).2.2.1 ∧ _ = nI (ge (t.1 ++ [e]) t.1.length).2.2.2 ∧ _ = mb (t.1 ++ [e]) t.1.length
    rw [ge_last, mb_last, he]
    exact ⟨rfl, rfl, rfl, rfl, rfl⟩
theorem C_room_5 {E : EV} {Q : Sg → Int32 → Prop} {σ : Sg} {n m : Nat} {s : Int32} (hn : gi σ 505 = nI n) (hm : gi σ 506 = nI m) (hb : n ≤ 40 ∧ m ≤ 6) (hq : Q σ (bi (n < 40 ∧ (s.toInt = 1 → m < 6)))) : MetI E mi_X0_hasRoomFor [.ref 5, .int s] σ Q := by
  have e := nIt (n := n) (by omega)
  have e2 := nIt (n := m) (by omega)
  refine M_X0_hasRoomFor_5 ⟨fun h => ?_, fun h => ⟨fun h2 => ?_, fun h2 => ⟨fun h3 => ?_, fun h3 => ?_⟩⟩⟩
  · rw [hn] at h; simp only [Int32.lt_iff_toInt_lt, Int32.le_iff_toInt_le, ← Int32.toInt_inj, iv_m9, iv_m3, iv_m2, iv_m1, iv_0, iv_1, iv_2, iv_3, iv_4, iv_5, iv_6, iv_7, iv_8, iv_9, iv_32, iv_40, iv_99, iv_100, iv_400, e] at h; exact q0 hq (by omega)
  · rw [hn] at h; simp only [Int32.lt_iff_toInt_lt, Int32.le_iff_toInt_le, ← Int32.toInt_inj, iv_m9, iv_m3, iv_m2, iv_m1, iv_0, iv_1, iv_2, iv_3, iv_4, iv_5, iv_6, iv_7, iv_8, iv_9, iv_32, iv_40, iv_99, iv_100, iv_400, e] at h h2; exact q1 hq (by omega)
  · rw [hn] at h; rw [hm] at h3; simp only [Int32.lt_iff_toInt_lt, Int32.le_iff_toInt_le, ← Int32.toInt_inj, iv_m9, iv_m3, iv_m2, iv_m1, iv_0, iv_1, iv_2, iv_3, iv_4, iv_5, iv_6, iv_7, iv_8, iv_9, iv_32, iv_40, iv_99, iv_100, iv_400, e, e2] at h h2 h3; exact q0 hq (by omega)
  · rw [hn] at h; rw [hm] at h3; simp only [Int32.lt_iff_toInt_lt, Int32.le_iff_toInt_le, ← Int32.toInt_inj, iv_m9, iv_m3, iv_m2, iv_m1, iv_0, iv_1, iv_2, iv_3, iv_4, iv_5, iv_6, iv_7, iv_8, iv_9, iv_32, iv_40, iv_99, iv_100, iv_400, e, e2] at h h2 h3; exact q1 hq (by omega)
theorem C_add_5 {E : EV} {Q : Sg → Prop} {σ : Sg} {t : Tl} {s a b : Nat} (h : EvC σ 5 t) (hs : s < 2 ^ 31) (hb : t.1.length ≤ 40 ∧ mc t.1 ≤ 6) (hr : t.1.length < 40 ∧ (s = 1 → mc t.1 < 6)) (hq : ∀ τ, Fr 5 10 σ τ → EvC τ 5 (t.1 ++ [(s, t.2, a, b)], t.2) → Q τ) : MetV E mi_X0_add [.ref 5, .int (nI s), .int (nI a), .int (nI b)] σ Q := by
  have es := nIt hs
  have hx5 : gi σ 505 = nI t.1.length := h.1
  have hx6 : gi σ 506 = nI (mc t.1) := h.2.1
  have hx7 : gi σ 507 = nI t.2 := h.2.2.1
  have ec : (nI t.1.length).toNatClampNeg = t.1.length := cl (by omega)
  refine M_X0_add_5 (C_room_5 hx5 hx6 hb ⟨fun r => ?_, fun r => ?_⟩)
  · rw [hx5, hx6, hx7, ec]
    refine ⟨vpn hr.1 (by omega), fun h1 => ?_, fun h1 => ?_⟩
    · have hs1 : s ≠ 1 := by rintro rfl; exact h1 rfl
      refine hq _ (Fr.si (Fr.sm (Fr.sm (Fr.sm (Fr.sm (Fr.sm Fr.rf (by omega) (by omega)) (by omega) (by omega)) (by omega) (by omega)) (by omega) (by omega)) (by omega) (by omega)) (by omega) (by omega)) (h.add rfl (nI_1 _) ?_ hx7 rfl rfl rfl rfl ?_)
      · show gi σ 506 = _; rw [hx6, if_neg hs1]; rfl
      · rw [if_neg hs1]; rfl
    · have hs1 : s = 1 := inj_nI hs (by omega) h1
      refine hq _ (Fr.si (Fr.si (Fr.sm (Fr.sm (Fr.sm (Fr.sm (Fr.sm Fr.rf (by omega) (by omega)) (by omega) (by omega)) (by omega) (by omega)) (by omega) (by omega)) (by omega) (by omega)) (by omega) (by omega)) (by omega) (by omega)) (h.add rfl (nI_1 _) ?_ hx7 rfl rfl rfl rfl ?_)
      · show nI (mc t.1) + 1 = _; rw [if_pos hs1, nI_1]
      · rw [if_pos hs1]; rfl
  · rw [bi_0] at r
    exact absurd ⟨hr.1, fun q => hr.2 (by rw [es] at q; omega)⟩ r
theorem C_room_14 {E : EV} {Q : Sg → Int32 → Prop} {σ : Sg} {n m : Nat} {s : Int32} (hn : gi σ 1405 = nI n) (hm : gi σ 1406 = nI m) (hb : n ≤ 40 ∧ m ≤ 6) (hq : Q σ (bi (n < 40 ∧ (s.toInt = 1 → m < 6)))) : MetI E mi_X0_hasRoomFor [.ref 14, .int s] σ Q := by
  have e := nIt (n := n) (by omega)
  have e2 := nIt (n := m) (by omega)
  refine M_X0_hasRoomFor_14 ⟨fun h => ?_, fun h => ⟨fun h2 => ?_, fun h2 => ⟨fun h3 => ?_, fun h3 => ?_⟩⟩⟩
  · rw [hn] at h; simp only [Int32.lt_iff_toInt_lt, Int32.le_iff_toInt_le, ← Int32.toInt_inj, iv_m9, iv_m3, iv_m2, iv_m1, iv_0, iv_1, iv_2, iv_3, iv_4, iv_5, iv_6, iv_7, iv_8, iv_9, iv_32, iv_40, iv_99, iv_100, iv_400, e] at h; exact q0 hq (by omega)
  · rw [hn] at h; simp only [Int32.lt_iff_toInt_lt, Int32.le_iff_toInt_le, ← Int32.toInt_inj, iv_m9, iv_m3, iv_m2, iv_m1, iv_0, iv_1, iv_2, iv_3, iv_4, iv_5, iv_6, iv_7, iv_8, iv_9, iv_32, iv_40, iv_99, iv_100, iv_400, e] at h h2; exact q1 hq (by omega)
  · rw [hn] at h; rw [hm] at h3; simp only [Int32.lt_iff_toInt_lt, Int32.le_iff_toInt_le, ← Int32.toInt_inj, iv_m9, iv_m3, iv_m2, iv_m1, iv_0, iv_1, iv_2, iv_3, iv_4, iv_5, iv_6, iv_7, iv_8, iv_9, iv_32, iv_40, iv_99, iv_100, iv_400, e, e2] at h h2 h3; exact q0 hq (by omega)
  · rw [hn] at h; rw [hm] at h3; simp only [Int32.lt_iff_toInt_lt, Int32.le_iff_toInt_le, ← Int32.toInt_inj, iv_m9, iv_m3, iv_m2, iv_m1, iv_0, iv_1, iv_2, iv_3, iv_4, iv_5, iv_6, iv_7, iv_8, iv_9, iv_32, iv_40, iv_99, iv_100, iv_400, e, e2] at h h2 h3; exact q1 hq (by omega)
theorem C_add_14 {E : EV} {Q : Sg → Prop} {σ : Sg} {t : Tl} {s a b : Nat} (h : EvC σ 14 t) (hs : s < 2 ^ 31) (hb : t.1.length ≤ 40 ∧ mc t.1 ≤ 6) (hr : t.1.length < 40 ∧ (s = 1 → mc t.1 < 6)) (hq : ∀ τ, Fr 14 19 σ τ → EvC τ 14 (t.1 ++ [(s, t.2, a, b)], t.2) → Q τ) : MetV E mi_X0_add [.ref 14, .int (nI s), .int (nI a), .int (nI b)] σ Q := by
  have es := nIt hs
  have hx5 : gi σ 1405 = nI t.1.length := h.1
  have hx6 : gi σ 1406 = nI (mc t.1) := h.2.1
  have hx7 : gi σ 1407 = nI t.2 := h.2.2.1
  have ec : (nI t.1.length).toNatClampNeg = t.1.length := cl (by omega)
  refine M_X0_add_14 (C_room_14 hx5 hx6 hb ⟨fun r => ?_, fun r => ?_⟩)
  · rw [hx5, hx6, hx7, ec]
    refine ⟨vpn hr.1 (by omega), fun h1 => ?_, fun h1 => ?_⟩
    · have hs1 : s ≠ 1 := by rintro rfl; exact h1 rfl
      refine hq _ (Fr.si (Fr.sm (Fr.sm (Fr.sm (Fr.sm (Fr.sm Fr.rf (by omega) (by omega)) (by omega) (by omega)) (by omega) (by omega)) (by omega) (by omega)) (by omega) (by omega)) (by omega) (by omega)) (h.add rfl (nI_1 _) ?_ hx7 rfl rfl rfl rfl ?_)
      · show gi σ 1406 = _; rw [hx6, if_neg hs1]; rfl
      · rw [if_neg hs1]; rfl
    · have hs1 : s = 1 := inj_nI hs (by omega) h1
      refine hq _ (Fr.si (Fr.si (Fr.sm (Fr.sm (Fr.sm (Fr.sm (Fr.sm Fr.rf (by omega) (by omega)) (by omega) (by omega)) (by omega) (by omega)) (by omega) (by omega)) (by omega) (by omega)) (by omega) (by omega)) (by omega) (by omega)) (h.add rfl (nI_1 _) ?_ hx7 rfl rfl rfl rfl ?_)
      · show nI (mc t.1) + 1 = _; rw [if_pos hs1, nI_1]
      · rw [if_pos hs1]; rfl
  · rw [bi_0] at r
    exact absurd ⟨hr.1, fun q => hr.2 (by rw [es] at q; omega)⟩ r
theorem C_take_5_20 {E : EV} {Q : Sg → Prop} {σ : Sg} {u : Tl} (h : EvC σ 20 u) (hb : u.1.length ≤ 40) (hq : ∀ τ, Fr 5 10 σ τ → EvC τ 5 u → Q τ) : MetV E mi_X0_takeFrom [.ref 5, .ref 20] σ Q := by
  refine M_X0_takeFrom_5_20 (hq _ (Fr.si (Fr.si (Fr.si (Fr.sa (Fr.sa (Fr.sa (Fr.sa (Fr.sa Fr.rf (by omega) (by omega)) (by omega) (by omega)) (by omega) (by omega)) (by omega) (by omega)) (by omega) (by omega)) (by omega) (by omega)) (by omega) (by omega)) (by omega) (by omega)) ⟨h.1, h.2.1, h.2.2.1, fun k hk => ?_⟩)
  have hk40 : k < 40 := by omega
  obtain ⟨g1, g2, g3, g4, g5⟩ := h.2.2.2 k hk
  exact ⟨(sb_cpy0 (n := 40) hk40).trans g1, (sb_cpy0 (n := 40) hk40).trans g2, (sb_cpy0 (n := 40) hk40).trans g3, (sb_cpy0 (n := 40) hk40).trans g4, (sb_cpy0 (n := 40) hk40).trans g5⟩
theorem C_take_5_26 {E : EV} {Q : Sg → Prop} {σ : Sg} {u : Tl} (h : EvC σ 26 u) (hb : u.1.length ≤ 40) (hq : ∀ τ, Fr 5 10 σ τ → EvC τ 5 u → Q τ) : MetV E mi_X0_takeFrom [.ref 5, .ref 26] σ Q := by
  refine M_X0_takeFrom_5_26 (hq _ (Fr.si (Fr.si (Fr.si (Fr.sa (Fr.sa (Fr.sa (Fr.sa (Fr.sa Fr.rf (by omega) (by omega)) (by omega) (by omega)) (by omega) (by omega)) (by omega) (by omega)) (by omega) (by omega)) (by omega) (by omega)) (by omega) (by omega)) (by omega) (by omega)) ⟨h.1, h.2.1, h.2.2.1, fun k hk => ?_⟩)
  have hk40 : k < 40 := by omega
  obtain ⟨g1, g2, g3, g4, g5⟩ := h.2.2.2 k hk
  exact ⟨(sb_cpy0 (n := 40) hk40).trans g1, (sb_cpy0 (n := 40) hk40).trans g2, (sb_cpy0 (n := 40) hk40).trans g3, (sb_cpy0 (n := 40) hk40).trans g4, (sb_cpy0 (n := 40) hk40).trans g5⟩
theorem C_take_20_5 {E : EV} {Q : Sg → Prop} {σ : Sg} {u : Tl} (h : EvC σ 5 u) (hb : u.1.length ≤ 40) (hq : ∀ τ, Fr 20 25 σ τ → EvC τ 20 u → Q τ) : MetV E mi_X0_takeFrom [.ref 20, .ref 5] σ Q := by
  refine M_X0_takeFrom_20_5 (hq _ (Fr.si (Fr.si (Fr.si (Fr.sa (Fr.sa (Fr.sa (Fr.sa (Fr.sa Fr.rf (by omega) (by omega)) (by omega) (by omega)) (by omega) (by omega)) (by omega) (by omega)) (by omega) (by omega)) (by omega) (by omega)) (by omega) (by omega)) (by omega) (by omega)) ⟨h.1, h.2.1, h.2.2.1, fun k hk => ?_⟩)
  have hk40 : k < 40 := by omega
  obtain ⟨g1, g2, g3, g4, g5⟩ := h.2.2.2 k hk
  exact ⟨(sb_cpy0 (n := 40) hk40).trans g1, (sb_cpy0 (n := 40) hk40).trans g2, (sb_cpy0 (n := 40) hk40).trans g3, (sb_cpy0 (n := 40) hk40).trans g4, (sb_cpy0 (n := 40) hk40).trans g5⟩
theorem C_take_26_5 {E : EV} {Q : Sg → Prop} {σ : Sg} {u : Tl} (h : EvC σ 5 u) (hb : u.1.length ≤ 40) (hq : ∀ τ, Fr 26 31 σ τ → EvC τ 26 u → Q τ) : MetV E mi_X0_takeFrom [.ref 26, .ref 5] σ Q := by
  refine M_X0_takeFrom_26_5 (hq _ (Fr.si (Fr.si (Fr.si (Fr.sa (Fr.sa (Fr.sa (Fr.sa (Fr.sa Fr.rf (by omega) (by omega)) (by omega) (by omega)) (by omega) (by omega)) (by omega) (by omega)) (by omega) (by omega)) (by omega) (by omega)) (by omega) (by omega)) (by omega) (by omega)) ⟨h.1, h.2.1, h.2.2.1, fun k hk => ?_⟩)
  have hk40 : k < 40 := by omega
  obtain ⟨g1, g2, g3, g4, g5⟩ := h.2.2.2 k hk
  exact ⟨(sb_cpy0 (n := 40) hk40).trans g1, (sb_cpy0 (n := 40) hk40).trans g2, (sb_cpy0 (n := 40) hk40).trans g3, (sb_cpy0 (n := 40) hk40).trans g4, (sb_cpy0 (n := 40) hk40).trans g5⟩
theorem C_take_5_14 {E : EV} {Q : Sg → Prop} {σ : Sg} {u : Tl} (h : EvC σ 14 u) (hb : u.1.length ≤ 40) (hq : ∀ τ, Fr 5 10 σ τ → EvC τ 5 u → Q τ) : MetV E mi_X0_takeFrom [.ref 5, .ref 14] σ Q := by
  refine M_X0_takeFrom_5_14 (hq _ (Fr.si (Fr.si (Fr.si (Fr.sa (Fr.sa (Fr.sa (Fr.sa (Fr.sa Fr.rf (by omega) (by omega)) (by omega) (by omega)) (by omega) (by omega)) (by omega) (by omega)) (by omega) (by omega)) (by omega) (by omega)) (by omega) (by omega)) (by omega) (by omega)) ⟨h.1, h.2.1, h.2.2.1, fun k hk => ?_⟩)
  have hk40 : k < 40 := by omega
  obtain ⟨g1, g2, g3, g4, g5⟩ := h.2.2.2 k hk
  exact ⟨(sb_cpy0 (n := 40) hk40).trans g1, (sb_cpy0 (n := 40) hk40).trans g2, (sb_cpy0 (n := 40) hk40).trans g3, (sb_cpy0 (n := 40) hk40).trans g4, (sb_cpy0 (n := 40) hk40).trans g5⟩
theorem ev_ge {n : Nat} {t : Tl} (h : okTl n t) {k : Nat} (hk : k < t.1.length) : okE n (ge t.1 k) := h.2.2.2.1 k hk
theorem C_event {E : EV} {Q : Sg → Int32 → Prop} {σ : Sg} {A : Ab} {k w : Int32} (h : RepC σ A) (g : Good A) (hq : Q σ (S_event A k w)) : MetI E mi_X5_event [.ref 0, .int k, .int w] σ Q := by
  obtain ⟨-, ⟨h5, -, -, hk⟩, -⟩ := h
  have hL := g.2.1.1
  have e := nIt (n := A.2.1.1.length) (by omega)
  have h5 : gi σ 505 = nI A.2.1.1.length := h5
  refine M_X5_event ⟨fun h => ?_, fun h => ⟨fun h2 => ⟨fun h3 => ?_, fun h3 => ?_, fun h3 => ?_, fun h3 => ?_, fun h3 => ?_⟩, fun h2 => ?_⟩⟩
  · simp only [Int32.lt_iff_toInt_lt, Int32.le_iff_toInt_le, ← Int32.toInt_inj, iv_m9, iv_m3, iv_m2, iv_m1, iv_0, iv_1, iv_2, iv_3, iv_4, iv_5, iv_6, iv_7, iv_8, iv_9, iv_32, iv_40, iv_99, iv_100, iv_400] at h; rw [S_event, if_neg (by omega)] at hq; exact hq
  all_goals rw [h5] at h2
  all_goals simp only [Int32.lt_iff_toInt_lt, Int32.le_iff_toInt_le, ← Int32.toInt_inj, iv_m9, iv_m3, iv_m2, iv_m1, iv_0, iv_1, iv_2, iv_3, iv_4, iv_5, iv_6, iv_7, iv_8, iv_9, iv_32, iv_40, iv_99, iv_100, iv_400, e] at h h2
  · rw [S_event, if_pos (by omega), if_neg (by omega), if_neg (by omega), if_neg (by omega), if_neg (by omega)] at hq; exact hq
  all_goals obtain ⟨n, hn, rfl, en⟩ := ge0 (x := k) (by omega)
  · rw [S_event, if_pos (by omega), if_pos (by omega), cl hn] at hq; exact ⟨vpn (by omega) (by omega), by rw [cl hn]; exact (hk n (by omega)).1.symm ▸ hq⟩
  · rw [S_event, if_pos (by omega), if_neg (by omega), if_pos (by omega), cl hn] at hq; exact ⟨vpn (by omega) (by omega), by rw [cl hn]; exact (hk n (by omega)).2.1.symm ▸ hq⟩
  · rw [S_event, if_pos (by omega), if_neg (by omega), if_neg (by omega), if_pos (by omega), cl hn] at hq; exact ⟨vpn (by omega) (by omega), by rw [cl hn]; exact (hk n (by omega)).2.2.1.symm ▸ hq⟩
  · rw [S_event, if_pos (by omega), if_neg (by omega), if_neg (by omega), if_neg (by omega), if_pos (by omega), cl hn] at hq; exact ⟨vpn (by omega) (by omega), by rw [cl hn]; exact (hk n (by omega)).2.2.2.1.symm ▸ hq⟩
  · rw [S_event, if_neg (by omega)] at hq; exact hq
theorem C_comes {E : EV} {Q : Sg → Int32 → Prop} {σ : Sg} {A : Ab} {s a b : Int32} (h : RepC σ A) (g : Good A) (hq : ∀ τ, Fr 0 39 σ τ → RepC τ (S_comes A s a b).2 → Q τ (S_comes A s a b).1) : MetI E mi_X5_comes [.ref 0, .int s, .int a, .int b] σ Q := by
  have hr := h
  obtain ⟨⟨h1, h1b⟩, h2, h3, h4, h5, h6⟩ := h
  have hP := g.1.1
  have hL := g.2.1.1
  have hM := g.2.1.2.1
  have bad : ¬ comOk A.1.length s a b → Q σ (-1) := fun z => by
    have := hq σ Fr.rf
    rw [S_comes, if_neg z] at this
    exact this hr
  have full : comOk A.1.length s a b → (A.2.1.1.length = 40 ∨ (s.toInt = 1 ∧ mc A.2.1.1 = 6)) → Q σ (-3) := fun z y => by
    have := hq σ Fr.rf
    rw [S_comes, if_pos z, if_pos y] at this
    exact this hr
  refine M_X5_comes ⟨fun q => ?_, fun q => ⟨fun q2 => ?_, fun q2 => C_knows_3 h1 hP ⟨fun r => ?_, fun r => ?_⟩⟩⟩
  · simp only [Int32.lt_iff_toInt_lt, Int32.le_iff_toInt_le, ← Int32.toInt_inj, iv_m9, iv_m3, iv_m2, iv_m1, iv_0, iv_1, iv_2, iv_3, iv_4, iv_5, iv_6, iv_7, iv_8, iv_9, iv_32, iv_40, iv_99, iv_100, iv_400] at q; exact bad (fun z => by have := z.1; omega)
  · simp only [Int32.lt_iff_toInt_lt, Int32.le_iff_toInt_le, ← Int32.toInt_inj, iv_m9, iv_m3, iv_m2, iv_m1, iv_0, iv_1, iv_2, iv_3, iv_4, iv_5, iv_6, iv_7, iv_8, iv_9, iv_32, iv_40, iv_99, iv_100, iv_400] at q q2; exact bad (fun z => by have := z.1; omega)
  · rw [bi_0] at r; exact bad (fun z => r z.2.1)
  · rw [bi_n0] at r
    simp only [Int32.lt_iff_toInt_lt, Int32.le_iff_toInt_le, ← Int32.toInt_inj, iv_m9, iv_m3, iv_m2, iv_m1, iv_0, iv_1, iv_2, iv_3, iv_4, iv_5, iv_6, iv_7, iv_8, iv_9, iv_32, iv_40, iv_99, iv_100, iv_400] at q q2
    refine C_allows_3 h1 hP (by omega) ⟨fun r2 => ?_, fun r2 => ?_⟩
    · rw [bi_n0] at r2
      have ok : comOk A.1.length s a b := ⟨by omega, r, r2.1, r2.2⟩
      refine C_room_5 h2.1 h2.2.1 ⟨hL, hM⟩ ⟨fun r3 => ?_, fun r3 => ?_⟩
      · rw [bi_n0] at r3
        obtain ⟨s', hs, rfl, es⟩ := ge0 (x := s) (by omega)
        obtain ⟨a', ha, rfl, ea⟩ := ge0 (x := a) r.1
        obtain ⟨b', hb, rfl, eb⟩ := ge0 (x := b) (by
          rcases Nat.lt_or_ge 1 s' with z | z
          · exact (r2.2 (by omega)).1
          · exact (r2.1 (by omega)).1.1)
        refine C_add_5 h2 hs ⟨hL, hM⟩ ⟨r3.1, fun z => r3.2 (by omega)⟩ (fun τ f e => ?_)
        have hh := hq τ (f.mono (by omega) (by omega))
        rw [S_comes, if_pos ok, if_neg (fun z => z.elim (fun z => by omega) (fun z => by have := r3.2 z.1; omega))] at hh
        rw [cl hs, cl ha, cl hb] at hh
        rw [show gi τ 505 = nI (A.2.1.1.length + 1) from by rw [e.gi5.1, List.length_append]; rfl]
        exact hh ⟨FoC.fr ⟨h1, h1b⟩ f (by omega), e, ⟨by rw [f.gi (by omega)]; exact h3.1, fun k hk => by rw [f.gm (by omega)]; exact h3.2 k hk⟩, h4.fr f (by omega) (by omega), h5.fr f (by omega) (by omega), by rw [f.gl (by omega)]; exact h6⟩
      · rw [bi_0] at r3
        exact full ok (by
          rcases Nat.lt_or_ge A.2.1.1.length 40 with z | z
          · refine Or.inr ?_
            by_cases y : s.toInt = 1
            · exact ⟨y, by
                rcases Nat.lt_or_ge (mc A.2.1.1) 6 with x | x
                · exact absurd ⟨z, fun _ => x⟩ r3
                · omega⟩
            · exact absurd ⟨z, fun x => absurd x y⟩ r3
          · exact Or.inl (by omega))
    · rw [bi_0] at r2; exact bad (fun z => r2 z.2.2)
