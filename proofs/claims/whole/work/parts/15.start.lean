theorem arrK {s : State} {args : Array Value} {t : Nat} (h : (Cond.arrayClass (tyOf t)).before args s = true) : ∃ cA : ClassId, ArrOfT s cA (tyOf t) ∧ va_RA s cA (tyOf t) := by
  obtain ⟨c, k, comp, h1, h2, h3⟩ := Cond.arrayClass_spec h
  refine ⟨c, fun n z => ⟨fun k h => (by cases h), k, h2, comp, h3⟩, ?_⟩
  match t, h1 with
  | 0, h1 => exact h1
  | 1, h1 => exact h1
  | n + 2, h1 => exact h1
def sg0 : Sg := (fun k => cond (Nat.beq k 3205 || Nat.beq k 3206 || Nat.beq k 3605 || Nat.beq k 3606) (-9) 0, fun _ => 0, fun _ _ => 0)
def mx {α β : Type} (f : Nat → α → β) : Nat → List α → List β
  | _, [] => []
  | k, a :: l => f k a :: mx f (k + 1) l
theorem mx_at {α β : Type} (f : Nat → α → β) : ∀ (l : List α) (k i : Nat), (mx f k l)[i]? = l[i]?.map (f (k + i))
  | [], k, i => by simp [mx]
  | a :: l, k, 0 => by simp [mx]
  | a :: l, k, i + 1 => by
    show (mx f (k + 1) l)[i]? = l[i]?.map (f (k + (i + 1)))
    rw [mx_at f l (k + 1) i, show k + 1 + i = k + (i + 1) by omega]
theorem mx_eq {α β : Type} (f : Nat → α → β) (l : List α) : l.mapIdx f = mx f 0 l := by
  apply List.ext_getElem?
  intro i
  rw [List.getElem?_mapIdx, mx_at, Nat.zero_add]
def ent2 (E : EV) (σ : Sg) (i : Nat) : (Nat × List FD) ⊕ (Nat × Nat) → va_E
  | .inl (ci, fs) => .inr (ci, mx (fun k f => cv E.1 (fval σ i k f)) 0 fs)
  | .inr (t, n) => .inl (E.2.2 t, n, .inl (gm σ i))
theorem world2 (E : EV) (σ : Sg) : world E σ = mx (fun i c => (E.1 i, ent2 E σ i c)) 0 layT := by
  rw [world, mx_eq]
  congr 1
  funext i c
  cases c with
  | inl x => show (E.1 i, Sum.inr (x.1, x.2.mapIdx _)) = (E.1 i, Sum.inr (x.1, mx _ 0 x.2)); rw [mx_eq]
  | inr x => rfl
set_option maxRecDepth 100000 in
set_option maxHeartbeats 4000000 in
theorem world0 (E : EV) : world E sg0 = [((E.1 0), .inr (5, [.ref (E.1 1), .ref (E.1 3), .ref (E.1 5), .ref (E.1 11), .ref (E.1 20), .ref (E.1 26), .int 0, .int 0, .ref (E.1 32), .ref (E.1 36), .long 0])), ((E.1 1), .inr (4, [.ref (E.1 2), .int 0])), ((E.1 2), .inl (E.2.2 0, 400, .inl (fun _ => 0))), ((E.1 3), .inr (1, [.ref (E.1 4), .int 0])), ((E.1 4), .inl (E.2.2 0, 8, .inl (fun _ => 0))), ((E.1 5), .inr (0, [.ref (E.1 6), .ref (E.1 7), .ref (E.1 8), .ref (E.1 9), .ref (E.1 10), .int 0, .int 0, .int 0])), ((E.1 6), .inl (E.2.2 0, 40, .inl (fun _ => 0))), ((E.1 7), .inl (E.2.2 0, 40, .inl (fun _ => 0))), ((E.1 8), .inl (E.2.2 0, 40, .inl (fun _ => 0))), ((E.1 9), .inl (E.2.2 0, 40, .inl (fun _ => 0))), ((E.1 10), .inl (E.2.2 0, 40, .inl (fun _ => 0))), ((E.1 11), .inr (2, [.ref (E.1 12), .ref (E.1 14), .ref (E.1 1), .int 0, .int 0, .int 0, .int 0])), ((E.1 12), .inr (1, [.ref (E.1 13), .int 0])), ((E.1 13), .inl (E.2.2 0, 8, .inl (fun _ => 0))), ((E.1 14), .inr (0, [.ref (E.1 15), .ref (E.1 16), .ref (E.1 17), .ref (E.1 18), .ref (E.1 19), .int 0, .int 0, .int 0])), ((E.1 15), .inl (E.2.2 0, 40, .inl (fun _ => 0))), ((E.1 16), .inl (E.2.2 0, 40, .inl (fun _ => 0))), ((E.1 17), .inl (E.2.2 0, 40, .inl (fun _ => 0))), ((E.1 18), .inl (E.2.2 0, 40, .inl (fun _ => 0))), ((E.1 19), .inl (E.2.2 0, 40, .inl (fun _ => 0))), ((E.1 20), .inr (0, [.ref (E.1 21), .ref (E.1 22), .ref (E.1 23), .ref (E.1 24), .ref (E.1 25), .int 0, .int 0, .int 0])), ((E.1 21), .inl (E.2.2 0, 40, .inl (fun _ => 0))), ((E.1 22), .inl (E.2.2 0, 40, .inl (fun _ => 0))), ((E.1 23), .inl (E.2.2 0, 40, .inl (fun _ => 0))), ((E.1 24), .inl (E.2.2 0, 40, .inl (fun _ => 0))), ((E.1 25), .inl (E.2.2 0, 40, .inl (fun _ => 0))), ((E.1 26), .inr (0, [.ref (E.1 27), .ref (E.1 28), .ref (E.1 29), .ref (E.1 30), .ref (E.1 31), .int 0, .int 0, .int 0])), ((E.1 27), .inl (E.2.2 0, 40, .inl (fun _ => 0))), ((E.1 28), .inl (E.2.2 0, 40, .inl (fun _ => 0))), ((E.1 29), .inl (E.2.2 0, 40, .inl (fun _ => 0))), ((E.1 30), .inl (E.2.2 0, 40, .inl (fun _ => 0))), ((E.1 31), .inl (E.2.2 0, 40, .inl (fun _ => 0))), ((E.1 32), .inr (3, [.ref (E.1 33), .ref (E.1 34), .ref (E.1 35), .int 0, .int 0, .int (-9), .int (-9), .int 0])), ((E.1 33), .inl (E.2.2 0, 8, .inl (fun _ => 0))), ((E.1 34), .inl (E.2.2 0, 8, .inl (fun _ => 0))), ((E.1 35), .inl (E.2.2 0, 8, .inl (fun _ => 0))), ((E.1 36), .inr (3, [.ref (E.1 37), .ref (E.1 38), .ref (E.1 39), .int 0, .int 0, .int (-9), .int (-9), .int 0])), ((E.1 37), .inl (E.2.2 0, 8, .inl (fun _ => 0))), ((E.1 38), .inl (E.2.2 0, 8, .inl (fun _ => 0))), ((E.1 39), .inl (E.2.2 0, 8, .inl (fun _ => 0))), ((E.1 40), .inr (6, [.long 0, .ref (E.1 41), .int 0, .ref (E.1 42), .ref (E.1 43), .ref (E.1 44), .ref (E.1 45), .ref (E.1 46), .ref (E.1 47), .ref (E.1 48), .ref (E.1 49), .ref (E.1 50), .int 0, .int 0, .int 0, .int 0, .int 0, .ref (E.1 51), .ref (E.1 52), .ref (E.1 53), .ref (E.1 54), .ref (E.1 55), .int 0, .ref (E.1 56), .int 0, .int 0, .int 0, .int 0, .int 0, .int 0, .ref (E.1 57)])), ((E.1 41), .inl (E.2.2 1, 400, .inl (fun _ => 0))), ((E.1 42), .inl (E.2.2 0, 2, .inl (fun _ => 0))), ((E.1 43), .inl (E.2.2 0, 16, .inl (fun _ => 0))), ((E.1 44), .inl (E.2.2 0, 4, .inl (fun _ => 0))), ((E.1 45), .inl (E.2.2 0, 4, .inl (fun _ => 0))), ((E.1 46), .inl (E.2.2 0, 160, .inl (fun _ => 0))), ((E.1 47), .inl (E.2.2 0, 160, .inl (fun _ => 0))), ((E.1 48), .inl (E.2.2 0, 160, .inl (fun _ => 0))), ((E.1 49), .inl (E.2.2 0, 160, .inl (fun _ => 0))), ((E.1 50), .inl (E.2.2 2, 2, .inl (fun _ => 0))), ((E.1 51), .inl (E.2.2 0, 8, .inl (fun _ => 0))), ((E.1 52), .inl (E.2.2 0, 32, .inl (fun _ => 0))), ((E.1 53), .inl (E.2.2 0, 32, .inl (fun _ => 0))), ((E.1 54), .inl (E.2.2 0, 4, .inl (fun _ => 0))), ((E.1 55), .inl (E.2.2 0, 4, .inl (fun _ => 0))), ((E.1 56), .inl (E.2.2 0, 8, .inl (fun _ => 0))), ((E.1 57), .inl (E.2.2 2, 6561, .inl (fun _ => 0)))] := (world2 E sg0).trans rfl
def sk6 : List Nat := [55, 96, 98, 100, 102, 104]
def stm (i : Nat) : Term := .string "ThreeVoices$Reader" (sk6.getD i 0)
set_option maxRecDepth 100000 in
theorem str_1 : ∀ i, i < 6 → Cond.exactly (stm i) "java/lang/String" ∈ flatC (Jvm.Cond.and given_1 narrow_1) := by decide +kernel
set_option maxRecDepth 100000 in
theorem str_2 : ∀ i, i < 6 → Cond.eq (.field (stm i) "java/lang/String" "coder" "B") (.int 0) ∈ flatC (Jvm.Cond.and given_1 narrow_1) := by decide +kernel
set_option maxRecDepth 100000 in
theorem str_3 : ∀ i, i < 6 → Cond.arrayOf (.field (stm i) "java/lang/String" "value" "[B") .byte ∈ flatC (Jvm.Cond.and given_1 narrow_1) := by decide +kernel
set_option maxRecDepth 100000 in
theorem str_4 : ∀ i, i < 6 → Cond.eq (.length (.field (stm i) "java/lang/String" "value" "[B")) (.int (Int32.ofNat (slen.getD i 0))) ∈ flatC (Jvm.Cond.and given_1 narrow_1) := by decide +kernel
set_option maxRecDepth 100000 in
theorem str_5 : ∀ i, i < 6 → ∀ j, j < slen.getD i 0 → Cond.eq (.elem (.field (stm i) "java/lang/String" "value" "[B") (.int (Int32.ofNat j))) (.int ((sbyt.getD i []).getD j 0)) ∈ flatC (Jvm.Cond.and given_1 narrow_1) := by decide +kernel
set_option maxRecDepth 100000 in
theorem str_6 : ∀ i, i < 6 → ∀ j, j < 6 → i ≠ j → (Cond.not (Cond.eq (stm i) (stm j)) ∈ flatC (Jvm.Cond.and given_1 narrow_1) ∨ Cond.not (Cond.eq (stm j) (stm i)) ∈ flatC (Jvm.Cond.and given_1 narrow_1)) := by decide +kernel
set_option maxRecDepth 100000 in
theorem str_7 : Cond.eq (.static "java/lang/String" "COMPACT_STRINGS" "Z") (.int 1) ∈ flatC (Jvm.Cond.and given_1 narrow_1) ∧ Cond.isRef (.static "jdk/internal/util/Preconditions" "SIOOBE_FORMATTER" "Ljava/util/function/BiFunction;") ∈ flatC (Jvm.Cond.and given_1 narrow_1) := by decide +kernel
set_option maxRecDepth 100000 in
theorem str_8 : ∀ i, i < 6 → ∃ k tx, strT[i]? = some (k, tx) ∧ k = sk6.getD i 0 ∧ Cond.stringRef RX2 k tx ∈ lw_tbl := by
  intro i hi
  match i, hi with
  | 0, _ => exact ⟨55, "person", rfl, rfl, List.mem_of_getElem? (i := 311) (by decide +kernel)⟩
  | 1, _ => exact ⟨96, "talk", rfl, rfl, List.mem_of_getElem? (i := 384) (by decide +kernel)⟩
  | 2, _ => exact ⟨98, "maybe", rfl, rfl, List.mem_of_getElem? (i := 385) (by decide +kernel)⟩
  | 3, _ => exact ⟨100, "think", rfl, rfl, List.mem_of_getElem? (i := 386) (by decide +kernel)⟩
  | 4, _ => exact ⟨102, "say", rfl, rfl, List.mem_of_getElem? (i := 387) (by decide +kernel)⟩
  | 5, _ => exact ⟨104, "move", rfl, rfl, List.mem_of_getElem? (i := 388) (by decide +kernel)⟩
theorem st_words : (Cond.laysStatic "java/lang/String" "COMPACT_STRINGS" "Z" ∈ lw_tbl ∧ Cond.initialized "java/lang/String" ∈ lw_tbl) ∧ Cond.laysStatic "jdk/internal/util/Preconditions" "SIOOBE_FORMATTER" "Ljava/util/function/BiFunction;" ∈ lw_tbl ∧ Cond.initialized "jdk/internal/util/Preconditions" ∈ lw_tbl := ⟨⟨List.mem_of_getElem? (i := 325) (by decide +kernel), List.mem_of_getElem? (i := 60) (by decide +kernel)⟩, List.mem_of_getElem? (i := 341) (by decide +kernel), List.mem_of_getElem? (i := 62) (by decide +kernel)⟩
theorem nest_words : ∀ q ∈ nestT, Cond.methodLinkNest q.1 q.2.1 q.2.2 RX5 ∈ lw_tbl := by
  intro q hq
  simp only [nestT, List.mem_cons, List.not_mem_nil, or_false] at hq
  rcases hq with rfl | rfl | rfl | rfl | rfl | rfl
  · exact List.mem_of_getElem? (i := 76) (by decide +kernel)
  · exact List.mem_of_getElem? (i := 92) (by decide +kernel)
  · exact List.mem_of_getElem? (i := 109) (by decide +kernel)
  · exact List.mem_of_getElem? (i := 160) (by decide +kernel)
  · exact List.mem_of_getElem? (i := 162) (by decide +kernel)
  · exact List.mem_of_getElem? (i := 190) (by decide +kernel)
theorem cl_L_7 : Cond.classLink RL 7 RX5 ∈ Big ∧ Cond.instantiable RX5 11 ∈ Big ∧ Cond.initialized RX5 ∈ Big := ⟨bg 66 (by decide +kernel) (by decide +kernel), bg 67 (by decide +kernel) (by decide +kernel), bg 52 (by decide +kernel) (by decide +kernel)⟩
theorem dl_X5 : ∀ j, j < 11 → defaultValue (tyX5 j) = vp_V [.null, .null, .null, .null, .null, .null, .int 0, .int 0, .null, .null, .long 0] j := by decide +kernel
theorem mc_L_9 : Cond.methodLink RL 9 yX5_init ∈ Big := bg 68 (by decide +kernel) (by decide +kernel)
theorem cl_L_10 : Cond.classLink RL 10 RX6 ∈ Big ∧ Cond.instantiable RX6 31 ∈ Big ∧ Cond.initialized RX6 ∈ Big := ⟨bg 660 (by decide +kernel) (by decide +kernel), bg 661 (by decide +kernel) (by decide +kernel), bg 58 (by decide +kernel) (by decide +kernel)⟩
theorem dl_X6 : ∀ j, j < 31 → defaultValue (tyX6 j) = vp_V [.long 0, .null, .int 0, .null, .null, .null, .null, .null, .null, .null, .null, .null, .int 0, .int 0, .int 0, .int 0, .int 0, .null, .null, .null, .null, .null, .int 0, .null, .int 0, .int 0, .int 0, .int 0, .int 0, .int 0, .null] j := by decide +kernel
theorem mc_L_12 : Cond.methodLink RL 12 yX6_init ∈ Big := bg 662 (by decide +kernel) (by decide +kernel)
def tgS (b n : Nat) (xs : Nat → Int32) : Tgt := (room_1, 0, 0, fun s => (fun q => s.heap.size ≤ q), fun below _ s => lw_Z below #[Value.ref b] s, fun meth args s => args = #[Value.ref b] ∧ va_X b n xs s s.heap ∧ b < s.heap.size ∧ meth.sig.returnType = ret ∧ meth.locks = false ∧ (Jvm.Cond.and given_1 narrow_1).before args s = true ∧ ∀ w ∈ lw_tbl, w.before args s = true)
theorem str_of {s : State} {args : Array Value} {A : Nat → Prop} (hts : ∀ w ∈ lw_tbl, w.before args s = true) (hg : (Jvm.Cond.and given_1 narrow_1).before args s = true) (hA : ∀ a : Nat, a < s.heap.size → ¬ A a) :
    ∃ (adK adV : Nat → Nat) (t : Nat), ∀ E : EV, (∀ i, i < 6 → E.1 (900 + i) = adK i) → (∀ i, i < 6 → E.1 (910 + i) = adV i) → E.1 990 = t → Str E A s s.heap := by
  have hf := flat_of_before _ hg
  obtain ⟨adK, adV, h1, h2⟩ := vk_Sof (args := args) (s := s) (N := 6) (tm := stm) (len := slen) (byt := sbyt) (A := A) (by decide) (fun i hi => hf _ (str_1 i hi)) (fun i hi => hf _ (str_2 i hi)) (fun i hi => hf _ (str_3 i hi)) (fun i hi => hf _ (str_4 i hi)) (fun i hi j hj => hf _ (str_5 i hi j hj)) (fun i j hi hj hij => (str_6 i hi j hj hij).elim (fun h => Or.inl (hf _ h)) (fun h => Or.inr (hf _ h))) hA
  have hz := va_Zof (A := A) (hts _ st_words.1.1) (hts _ st_words.1.2) (va_eqt (hf _ str_7.1)) hA
  have hq := va_Zqof (A := A) (hts _ st_words.2.1) (hts _ st_words.2.2) (hf _ str_7.2) hA
  obtain ⟨t, hq⟩ : ∃ t : Nat, va_Z "jdk/internal/util/Preconditions" "SIOOBE_FORMATTER" "Ljava/util/function/BiFunction;" .null A s s.heap ∨ va_Z "jdk/internal/util/Preconditions" "SIOOBE_FORMATTER" "Ljava/util/function/BiFunction;" (.ref t) A s s.heap := by
    rcases hq with h | ⟨t, h⟩
    · exact ⟨0, Or.inl h⟩
    · exact ⟨t, Or.inr h⟩
  refine ⟨adK, adV, t, fun E e1 e2 e3 => ⟨⟨fun i hi => ?_, fun i j hi hj e => ?_⟩, fun i k tx hi => ?_, hz, ?_⟩⟩
  · have h3 := h1.1 i hi
    simp only [e1 i hi, e2 i hi]
    exact h3
  · simp only [e1 i hi, e1 j hj] at e
    exact h1.2 i j hi hj e
  · have hi6 : i < 6 := (List.getElem?_eq_some_iff.mp hi).1
    obtain ⟨k', tx', h3, h4, h5⟩ := str_8 i hi6
    rw [hi] at h3
    cases h3
    rw [e1 i hi6]
    exact vk_R.of (hts _ h5) (by rw [h4]; exact h2 i hi6)
  · rw [e3]; exact hq
set_option maxRecDepth 100000 in
set_option maxHeartbeats 4000000 in
/-- the new world is that of a store: then the loop's own judgement serves -/
theorem n_toJ {D : va_G} {cA : Nat → ClassId} {b n : Nat} {xs : Nat → Int32} (q0 q1 q2 q3 q4 q5 q6 q7 q8 q9 q10 q11 q12 q13 q14 q15 q16 q17 q18 q19 q20 q21 q22 q23 q24 q25 q26 q27 q28 q29 q30 q31 q32 q33 q34 q35 q36 q37 q38 q39 q40 q41 q42 q43 q44 q45 q46 q47 q48 q49 q50 q51 q52 q53 q54 q55 q56 q57 : Nat) (h : ∀ E : EV, K_law_18 E b n xs sg0 0) :
    JN D cA mi_law (tgS b n xs) lawC lawS 18 [some (.ref b), some (.ref q0), some (.ref q40), some (.int 0)] [] [(q0, .inr (5, [.ref q1, .ref q3, .ref q5, .ref q11, .ref q20, .ref q26, .int 0, .int 0, .ref q32, .ref q36, .long 0])), (q1, .inr (4, [.ref q2, .int 0])), (q2, .inl (cA 0, 400, .inl (fun _ => 0))), (q3, .inr (1, [.ref q4, .int 0])), (q4, .inl (cA 0, 8, .inl (fun _ => 0))), (q5, .inr (0, [.ref q6, .ref q7, .ref q8, .ref q9, .ref q10, .int 0, .int 0, .int 0])), (q6, .inl (cA 0, 40, .inl (fun _ => 0))), (q7, .inl (cA 0, 40, .inl (fun _ => 0))), (q8, .inl (cA 0, 40, .inl (fun _ => 0))), (q9, .inl (cA 0, 40, .inl (fun _ => 0))), (q10, .inl (cA 0, 40, .inl (fun _ => 0))), (q11, .inr (2, [.ref q12, .ref q14, .ref q1, .int 0, .int 0, .int 0, .int 0])), (q12, .inr (1, [.ref q13, .int 0])), (q13, .inl (cA 0, 8, .inl (fun _ => 0))), (q14, .inr (0, [.ref q15, .ref q16, .ref q17, .ref q18, .ref q19, .int 0, .int 0, .int 0])), (q15, .inl (cA 0, 40, .inl (fun _ => 0))), (q16, .inl (cA 0, 40, .inl (fun _ => 0))), (q17, .inl (cA 0, 40, .inl (fun _ => 0))), (q18, .inl (cA 0, 40, .inl (fun _ => 0))), (q19, .inl (cA 0, 40, .inl (fun _ => 0))), (q20, .inr (0, [.ref q21, .ref q22, .ref q23, .ref q24, .ref q25, .int 0, .int 0, .int 0])), (q21, .inl (cA 0, 40, .inl (fun _ => 0))), (q22, .inl (cA 0, 40, .inl (fun _ => 0))), (q23, .inl (cA 0, 40, .inl (fun _ => 0))), (q24, .inl (cA 0, 40, .inl (fun _ => 0))), (q25, .inl (cA 0, 40, .inl (fun _ => 0))), (q26, .inr (0, [.ref q27, .ref q28, .ref q29, .ref q30, .ref q31, .int 0, .int 0, .int 0])), (q27, .inl (cA 0, 40, .inl (fun _ => 0))), (q28, .inl (cA 0, 40, .inl (fun _ => 0))), (q29, .inl (cA 0, 40, .inl (fun _ => 0))), (q30, .inl (cA 0, 40, .inl (fun _ => 0))), (q31, .inl (cA 0, 40, .inl (fun _ => 0))), (q32, .inr (3, [.ref q33, .ref q34, .ref q35, .int 0, .int 0, .int (-9), .int (-9), .int 0])), (q33, .inl (cA 0, 8, .inl (fun _ => 0))), (q34, .inl (cA 0, 8, .inl (fun _ => 0))), (q35, .inl (cA 0, 8, .inl (fun _ => 0))), (q36, .inr (3, [.ref q37, .ref q38, .ref q39, .int 0, .int 0, .int (-9), .int (-9), .int 0])), (q37, .inl (cA 0, 8, .inl (fun _ => 0))), (q38, .inl (cA 0, 8, .inl (fun _ => 0))), (q39, .inl (cA 0, 8, .inl (fun _ => 0))), (q40, .inr (6, [.long 0, .ref q41, .int 0, .ref q42, .ref q43, .ref q44, .ref q45, .ref q46, .ref q47, .ref q48, .ref q49, .ref q50, .int 0, .int 0, .int 0, .int 0, .int 0, .ref q51, .ref q52, .ref q53, .ref q54, .ref q55, .int 0, .ref q56, .int 0, .int 0, .int 0, .int 0, .int 0, .int 0, .ref q57])), (q41, .inl (cA 1, 400, .inl (fun _ => 0))), (q42, .inl (cA 0, 2, .inl (fun _ => 0))), (q43, .inl (cA 0, 16, .inl (fun _ => 0))), (q44, .inl (cA 0, 4, .inl (fun _ => 0))), (q45, .inl (cA 0, 4, .inl (fun _ => 0))), (q46, .inl (cA 0, 160, .inl (fun _ => 0))), (q47, .inl (cA 0, 160, .inl (fun _ => 0))), (q48, .inl (cA 0, 160, .inl (fun _ => 0))), (q49, .inl (cA 0, 160, .inl (fun _ => 0))), (q50, .inl (cA 2, 2, .inl (fun _ => 0))), (q51, .inl (cA 0, 8, .inl (fun _ => 0))), (q52, .inl (cA 0, 32, .inl (fun _ => 0))), (q53, .inl (cA 0, 32, .inl (fun _ => 0))), (q54, .inl (cA 0, 4, .inl (fun _ => 0))), (q55, .inl (cA 0, 4, .inl (fun _ => 0))), (q56, .inl (cA 0, 8, .inl (fun _ => 0))), (q57, .inl (cA 2, 6561, .inl (fun _ => 0)))] := by
  intro p l e s m args below meth c C H locs ls hP hD hS hl
  obtain ⟨hx, hb, hml, hown, hts, hK, hA, hNW, ⟨ha, hX, hbl, hr, hlk, hg, hlw⟩⟩ := id C
  obtain ⟨adK, adV, t, hStr⟩ := str_of (A := fun q => s.heap.size ≤ q) hlw hg (fun a h => Nat.not_le.mpr h)
  obtain ⟨E, hE⟩ : ∃ E : EV, E = ((fun i => if i < 900 then [q0, q1, q2, q3, q4, q5, q6, q7, q8, q9, q10, q11, q12, q13, q14, q15, q16, q17, q18, q19, q20, q21, q22, q23, q24, q25, q26, q27, q28, q29, q30, q31, q32, q33, q34, q35, q36, q37, q38, q39, q40, q41, q42, q43, q44, q45, q46, q47, q48, q49, q50, q51, q52, q53, q54, q55, q56, q57].getD i 0 else if i < 910 then adK (i - 900) else if i < 990 then adV (i - 910) else if i = 990 then t else b, D, cA) : EV) := ⟨_, rfl⟩
  have eA : E.2.2 = cA := by rw [hE]
  have g0 : E.1 0 = q0 := by rw [hE]; rfl
  have g1 : E.1 1 = q1 := by rw [hE]; rfl
  have g2 : E.1 2 = q2 := by rw [hE]; rfl
  have g3 : E.1 3 = q3 := by rw [hE]; rfl
  have g4 : E.1 4 = q4 := by rw [hE]; rfl
  have g5 : E.1 5 = q5 := by rw [hE]; rfl
  have g6 : E.1 6 = q6 := by rw [hE]; rfl
  have g7 : E.1 7 = q7 := by rw [hE]; rfl
  have g8 : E.1 8 = q8 := by rw [hE]; rfl
  have g9 : E.1 9 = q9 := by rw [hE]; rfl
  have g10 : E.1 10 = q10 := by rw [hE]; rfl
  have g11 : E.1 11 = q11 := by rw [hE]; rfl
  have g12 : E.1 12 = q12 := by rw [hE]; rfl
  have g13 : E.1 13 = q13 := by rw [hE]; rfl
  have g14 : E.1 14 = q14 := by rw [hE]; rfl
  have g15 : E.1 15 = q15 := by rw [hE]; rfl
  have g16 : E.1 16 = q16 := by rw [hE]; rfl
  have g17 : E.1 17 = q17 := by rw [hE]; rfl
  have g18 : E.1 18 = q18 := by rw [hE]; rfl
  have g19 : E.1 19 = q19 := by rw [hE]; rfl
  have g20 : E.1 20 = q20 := by rw [hE]; rfl
  have g21 : E.1 21 = q21 := by rw [hE]; rfl
  have g22 : E.1 22 = q22 := by rw [hE]; rfl
  have g23 : E.1 23 = q23 := by rw [hE]; rfl
  have g24 : E.1 24 = q24 := by rw [hE]; rfl
  have g25 : E.1 25 = q25 := by rw [hE]; rfl
  have g26 : E.1 26 = q26 := by rw [hE]; rfl
  have g27 : E.1 27 = q27 := by rw [hE]; rfl
  have g28 : E.1 28 = q28 := by rw [hE]; rfl
  have g29 : E.1 29 = q29 := by rw [hE]; rfl
  have g30 : E.1 30 = q30 := by rw [hE]; rfl
  have g31 : E.1 31 = q31 := by rw [hE]; rfl
  have g32 : E.1 32 = q32 := by rw [hE]; rfl
  have g33 : E.1 33 = q33 := by rw [hE]; rfl
  have g34 : E.1 34 = q34 := by rw [hE]; rfl
  have g35 : E.1 35 = q35 := by rw [hE]; rfl
  have g36 : E.1 36 = q36 := by rw [hE]; rfl
  have g37 : E.1 37 = q37 := by rw [hE]; rfl
  have g38 : E.1 38 = q38 := by rw [hE]; rfl
  have g39 : E.1 39 = q39 := by rw [hE]; rfl
  have g40 : E.1 40 = q40 := by rw [hE]; rfl
  have g41 : E.1 41 = q41 := by rw [hE]; rfl
  have g42 : E.1 42 = q42 := by rw [hE]; rfl
  have g43 : E.1 43 = q43 := by rw [hE]; rfl
  have g44 : E.1 44 = q44 := by rw [hE]; rfl
  have g45 : E.1 45 = q45 := by rw [hE]; rfl
  have g46 : E.1 46 = q46 := by rw [hE]; rfl
  have g47 : E.1 47 = q47 := by rw [hE]; rfl
  have g48 : E.1 48 = q48 := by rw [hE]; rfl
  have g49 : E.1 49 = q49 := by rw [hE]; rfl
  have g50 : E.1 50 = q50 := by rw [hE]; rfl
  have g51 : E.1 51 = q51 := by rw [hE]; rfl
  have g52 : E.1 52 = q52 := by rw [hE]; rfl
  have g53 : E.1 53 = q53 := by rw [hE]; rfl
  have g54 : E.1 54 = q54 := by rw [hE]; rfl
  have g55 : E.1 55 = q55 := by rw [hE]; rfl
  have g56 : E.1 56 = q56 := by rw [hE]; rfl
  have g57 : E.1 57 = q57 := by rw [hE]; rfl
  have hw : world E sg0 = [(q0, .inr (5, [.ref q1, .ref q3, .ref q5, .ref q11, .ref q20, .ref q26, .int 0, .int 0, .ref q32, .ref q36, .long 0])), (q1, .inr (4, [.ref q2, .int 0])), (q2, .inl (cA 0, 400, .inl (fun _ => 0))), (q3, .inr (1, [.ref q4, .int 0])), (q4, .inl (cA 0, 8, .inl (fun _ => 0))), (q5, .inr (0, [.ref q6, .ref q7, .ref q8, .ref q9, .ref q10, .int 0, .int 0, .int 0])), (q6, .inl (cA 0, 40, .inl (fun _ => 0))), (q7, .inl (cA 0, 40, .inl (fun _ => 0))), (q8, .inl (cA 0, 40, .inl (fun _ => 0))), (q9, .inl (cA 0, 40, .inl (fun _ => 0))), (q10, .inl (cA 0, 40, .inl (fun _ => 0))), (q11, .inr (2, [.ref q12, .ref q14, .ref q1, .int 0, .int 0, .int 0, .int 0])), (q12, .inr (1, [.ref q13, .int 0])), (q13, .inl (cA 0, 8, .inl (fun _ => 0))), (q14, .inr (0, [.ref q15, .ref q16, .ref q17, .ref q18, .ref q19, .int 0, .int 0, .int 0])), (q15, .inl (cA 0, 40, .inl (fun _ => 0))), (q16, .inl (cA 0, 40, .inl (fun _ => 0))), (q17, .inl (cA 0, 40, .inl (fun _ => 0))), (q18, .inl (cA 0, 40, .inl (fun _ => 0))), (q19, .inl (cA 0, 40, .inl (fun _ => 0))), (q20, .inr (0, [.ref q21, .ref q22, .ref q23, .ref q24, .ref q25, .int 0, .int 0, .int 0])), (q21, .inl (cA 0, 40, .inl (fun _ => 0))), (q22, .inl (cA 0, 40, .inl (fun _ => 0))), (q23, .inl (cA 0, 40, .inl (fun _ => 0))), (q24, .inl (cA 0, 40, .inl (fun _ => 0))), (q25, .inl (cA 0, 40, .inl (fun _ => 0))), (q26, .inr (0, [.ref q27, .ref q28, .ref q29, .ref q30, .ref q31, .int 0, .int 0, .int 0])), (q27, .inl (cA 0, 40, .inl (fun _ => 0))), (q28, .inl (cA 0, 40, .inl (fun _ => 0))), (q29, .inl (cA 0, 40, .inl (fun _ => 0))), (q30, .inl (cA 0, 40, .inl (fun _ => 0))), (q31, .inl (cA 0, 40, .inl (fun _ => 0))), (q32, .inr (3, [.ref q33, .ref q34, .ref q35, .int 0, .int 0, .int (-9), .int (-9), .int 0])), (q33, .inl (cA 0, 8, .inl (fun _ => 0))), (q34, .inl (cA 0, 8, .inl (fun _ => 0))), (q35, .inl (cA 0, 8, .inl (fun _ => 0))), (q36, .inr (3, [.ref q37, .ref q38, .ref q39, .int 0, .int 0, .int (-9), .int (-9), .int 0])), (q37, .inl (cA 0, 8, .inl (fun _ => 0))), (q38, .inl (cA 0, 8, .inl (fun _ => 0))), (q39, .inl (cA 0, 8, .inl (fun _ => 0))), (q40, .inr (6, [.long 0, .ref q41, .int 0, .ref q42, .ref q43, .ref q44, .ref q45, .ref q46, .ref q47, .ref q48, .ref q49, .ref q50, .int 0, .int 0, .int 0, .int 0, .int 0, .ref q51, .ref q52, .ref q53, .ref q54, .ref q55, .int 0, .ref q56, .int 0, .int 0, .int 0, .int 0, .int 0, .int 0, .ref q57])), (q41, .inl (cA 1, 400, .inl (fun _ => 0))), (q42, .inl (cA 0, 2, .inl (fun _ => 0))), (q43, .inl (cA 0, 16, .inl (fun _ => 0))), (q44, .inl (cA 0, 4, .inl (fun _ => 0))), (q45, .inl (cA 0, 4, .inl (fun _ => 0))), (q46, .inl (cA 0, 160, .inl (fun _ => 0))), (q47, .inl (cA 0, 160, .inl (fun _ => 0))), (q48, .inl (cA 0, 160, .inl (fun _ => 0))), (q49, .inl (cA 0, 160, .inl (fun _ => 0))), (q50, .inl (cA 2, 2, .inl (fun _ => 0))), (q51, .inl (cA 0, 8, .inl (fun _ => 0))), (q52, .inl (cA 0, 32, .inl (fun _ => 0))), (q53, .inl (cA 0, 32, .inl (fun _ => 0))), (q54, .inl (cA 0, 4, .inl (fun _ => 0))), (q55, .inl (cA 0, 4, .inl (fun _ => 0))), (q56, .inl (cA 0, 8, .inl (fun _ => 0))), (q57, .inl (cA 2, 6561, .inl (fun _ => 0)))] := by rw [world0, eA]; simp only [g0, g1, g2, g3, g4, g5, g6, g7, g8, g9, g10, g11, g12, g13, g14, g15, g16, g17, g18, g19, g20, g21, g22, g23, g24, g25, g26, g27, g28, g29, g30, g31, g32, g33, g34, g35, g36, g37, g38, g39, g40, g41, g42, g43, g44, g45, g46, g47, g48, g49, g50, g51, g52, g53, g54, g55, g56, g57]
  have h999 : E.1 999 = b := by rw [hE]; rfl
  have hI : Inj E := by
    intro i j hi hj e
    have h1 := world_at (E := E) (σ := sg0) (List.getElem?_eq_getElem hi)
    have h2 := world_at (E := E) (σ := sg0) (List.getElem?_eq_getElem hj)
    rw [hw] at h1 h2
    exact hD.1 i j _ _ h1 h2 e
  have hAA : ∀ q, AA E q → s.heap.size ≤ q := by
    rintro q ⟨i, hi, rfl⟩
    have h1 := world_at (E := E) (σ := sg0) (List.getElem?_eq_getElem hi)
    rw [hw] at h1
    exact hD.2 i _ h1
  have e1 : ∀ i, i < 6 → E.1 (900 + i) = adK i := by
    intro i hi
    rw [hE]
    show (if 900 + i < 900 then _ else if 900 + i < 910 then _ else _) = _
    rw [if_neg (by omega), if_pos (by omega), Nat.add_sub_cancel_left]
  have e2 : ∀ i, i < 6 → E.1 (910 + i) = adV i := by
    intro i hi
    rw [hE]
    show (if 910 + i < 900 then _ else if 910 + i < 910 then _ else if 910 + i < 990 then _ else _) = _
    rw [if_neg (by omega), if_neg (by omega), if_pos (by omega), Nat.add_sub_cancel_left]
  have e3 : E.1 990 = t := by rw [hE]; rfl
  have eD : E.2.1 = D := by rw [hE]
  have e0 : E.1 0 = q0 ∧ E.1 40 = q40 := ⟨g0, g40⟩
  refine h E p l e s m args below meth c ⟨hx, hb, hml, hown, hts, ?_, hI, hAA, hStr E e1 e2 e3, ha, hX, hbl, h999, hr, hlk, Nat.le_of_ble_eq_true rfl, Nat.le_of_ble_eq_true rfl⟩ H locs ls ?_ hS ?_
  · rw [eD]; show va_K D vwCl [(E.2.2 0, .int), (E.2.2 1, .byte), (E.2.2 2, .boolean)] s; rw [eA]; exact hK
  · rw [hw, eD]; exact hP
  · refine lvP_of hl (fun i v hi => ?_)
    match i, hi with
    | 0, hi => cases hi; exact asl_mem.mpr ⟨.ref b, rfl, by show Value.ref (E.1 999) = _; rw [h999]; rfl⟩
    | 1, hi => cases hi; exact asl_mem.mpr ⟨.ref q0, rfl, by show Value.ref (E.1 0) = _; rw [e0.1]; rfl⟩
    | 2, hi => cases hi; exact asl_mem.mpr ⟨.ref q40, rfl, by show Value.ref (E.1 40) = _; rw [e0.2]; rfl⟩
    | 3, hi => cases hi; exact asl_mem.mpr ⟨.int 0, rfl, rfl⟩
    | n + 4, hi => simp at hi
set_option maxRecDepth 100000 in
set_option maxHeartbeats 4000000 in
theorem law_start {D : va_G} {cA : Nat → ClassId} {b n : Nat} {xs : Nat → Int32} (h : ∀ E : EV, K_law_18 E b n xs sg0 0) : JN D cA mi_law (tgS b n xs) 0 0 0 [some (.ref b), none, none, none] [] [] :=
 n_new (ci := 5) (fs := [.null, .null, .null, .null, .null, .null, .int 0, .int 0, .null, .null, .long 0]) fin_X5 tyX5_ok cl_L_7 rfl dl_X5 ⟨Nat.le_of_ble_eq_true rfl, Nat.le_of_ble_eq_true rfl⟩ dL_law_0 (ws2 := fun q0 => [(q0, .inr (5, [.null, .null, .null, .null, .null, .null, .int 0, .int 0, .null, .null, .long 0]))]) (fun _ => rfl) (fun q0 =>
 n_dup dL_law_3 rfl <|
 n_callI (mc := 39) (ms := 1325) (As := []) ok_X5_init mc_L_9 ⟨⟨Nat.le_of_ble_eq_true rfl, Nat.le_of_ble_eq_true rfl⟩, Nat.le_of_ble_eq_true rfl, Nat.le_of_ble_eq_true rfl⟩ dL_law_4 rfl rfl (Nat.le_of_ble_eq_true rfl) (N_X5_init_0 q0) (fun ws2 h2 => by
 obtain ⟨q1, q2, q3, q4, q5, q6, q7, q8, q9, q10, q11, q12, q13, q14, q15, q16, q17, q18, q19, q20, q21, q22, q23, q24, q25, q26, q27, q28, q29, q30, q31, q32, q33, q34, q35, q36, q37, q38, q39, rfl⟩ := h2
 exact n_astore (L2 := [some (.ref b), some (.ref q0), none, none]) dL_law_7 rfl (Nat.le_of_ble_eq_true rfl) <|
 n_new (ci := 6) (fs := [.long 0, .null, .int 0, .null, .null, .null, .null, .null, .null, .null, .null, .null, .int 0, .int 0, .int 0, .int 0, .int 0, .null, .null, .null, .null, .null, .int 0, .null, .int 0, .int 0, .int 0, .int 0, .int 0, .int 0, .null]) fin_X6 tyX6_ok cl_L_10 rfl dl_X6 ⟨Nat.le_of_ble_eq_true rfl, Nat.le_of_ble_eq_true rfl⟩ dL_law_8 (ws2 := fun q40 => [(q0, .inr (5, [.ref q1, .ref q3, .ref q5, .ref q11, .ref q20, .ref q26, .int 0, .int 0, .ref q32, .ref q36, .long 0])), (q1, .inr (4, [.ref q2, .int 0])), (q2, .inl (cA 0, 400, .inl (fun _ => 0))), (q3, .inr (1, [.ref q4, .int 0])), (q4, .inl (cA 0, 8, .inl (fun _ => 0))), (q5, .inr (0, [.ref q6, .ref q7, .ref q8, .ref q9, .ref q10, .int 0, .int 0, .int 0])), (q6, .inl (cA 0, 40, .inl (fun _ => 0))), (q7, .inl (cA 0, 40, .inl (fun _ => 0))), (q8, .inl (cA 0, 40, .inl (fun _ => 0))), (q9, .inl (cA 0, 40, .inl (fun _ => 0))), (q10, .inl (cA 0, 40, .inl (fun _ => 0))), (q11, .inr (2, [.ref q12, .ref q14, .ref q1, .int 0, .int 0, .int 0, .int 0])), (q12, .inr (1, [.ref q13, .int 0])), (q13, .inl (cA 0, 8, .inl (fun _ => 0))), (q14, .inr (0, [.ref q15, .ref q16, .ref q17, .ref q18, .ref q19, .int 0, .int 0, .int 0])), (q15, .inl (cA 0, 40, .inl (fun _ => 0))), (q16, .inl (cA 0, 40, .inl (fun _ => 0))), (q17, .inl (cA 0, 40, .inl (fun _ => 0))), (q18, .inl (cA 0, 40, .inl (fun _ => 0))), (q19, .inl (cA 0, 40, .inl (fun _ => 0))), (q20, .inr (0, [.ref q21, .ref q22, .ref q23, .ref q24, .ref q25, .int 0, .int 0, .int 0])), (q21, .inl (cA 0, 40, .inl (fun _ => 0))), (q22, .inl (cA 0, 40, .inl (fun _ => 0))), (q23, .inl (cA 0, 40, .inl (fun _ => 0))), (q24, .inl (cA 0, 40, .inl (fun _ => 0))), (q25, .inl (cA 0, 40, .inl (fun _ => 0))), (q26, .inr (0, [.ref q27, .ref q28, .ref q29, .ref q30, .ref q31, .int 0, .int 0, .int 0])), (q27, .inl (cA 0, 40, .inl (fun _ => 0))), (q28, .inl (cA 0, 40, .inl (fun _ => 0))), (q29, .inl (cA 0, 40, .inl (fun _ => 0))), (q30, .inl (cA 0, 40, .inl (fun _ => 0))), (q31, .inl (cA 0, 40, .inl (fun _ => 0))), (q32, .inr (3, [.ref q33, .ref q34, .ref q35, .int 0, .int 0, .int (-9), .int (-9), .int 0])), (q33, .inl (cA 0, 8, .inl (fun _ => 0))), (q34, .inl (cA 0, 8, .inl (fun _ => 0))), (q35, .inl (cA 0, 8, .inl (fun _ => 0))), (q36, .inr (3, [.ref q37, .ref q38, .ref q39, .int 0, .int 0, .int (-9), .int (-9), .int 0])), (q37, .inl (cA 0, 8, .inl (fun _ => 0))), (q38, .inl (cA 0, 8, .inl (fun _ => 0))), (q39, .inl (cA 0, 8, .inl (fun _ => 0))), (q40, .inr (6, [.long 0, .null, .int 0, .null, .null, .null, .null, .null, .null, .null, .null, .null, .int 0, .int 0, .int 0, .int 0, .int 0, .null, .null, .null, .null, .null, .int 0, .null, .int 0, .int 0, .int 0, .int 0, .int 0, .int 0, .null]))]) (fun _ => rfl) (fun q40 =>
 n_dup dL_law_11 rfl <|
 n_callI (mc := 17) (ms := 7717) (As := []) ok_X6_init mc_L_12 ⟨⟨Nat.le_of_ble_eq_true rfl, Nat.le_of_ble_eq_true rfl⟩, Nat.le_of_ble_eq_true rfl, Nat.le_of_ble_eq_true rfl⟩ dL_law_12 rfl rfl (Nat.le_of_ble_eq_true rfl) (N_X6_init_0 q0 q1 q2 q3 q4 q5 q6 q7 q8 q9 q10 q11 q12 q13 q14 q15 q16 q17 q18 q19 q20 q21 q22 q23 q24 q25 q26 q27 q28 q29 q30 q31 q32 q33 q34 q35 q36 q37 q38 q39 q40) (fun ws2 h2 => by
 obtain ⟨q41, q42, q43, q44, q45, q46, q47, q48, q49, q50, q51, q52, q53, q54, q55, q56, q57, rfl⟩ := h2
 exact n_astore (L2 := [some (.ref b), some (.ref q0), some (.ref q40), none]) dL_law_15 rfl (Nat.le_of_ble_eq_true rfl) <|
 n_iconst dL_law_16 ic_0 <|
 n_istore (L2 := [some (.ref b), some (.ref q0), some (.ref q40), some (.int 0)]) dL_law_17 rfl (Nat.le_of_ble_eq_true rfl) <|
 n_toJ q0 q1 q2 q3 q4 q5 q6 q7 q8 q9 q10 q11 q12 q13 q14 q15 q16 q17 q18 q19 q20 q21 q22 q23 q24 q25 q26 q27 q28 q29 q30 q31 q32 q33 q34 q35 q36 q37 q38 q39 q40 q41 q42 q43 q44 q45 q46 q47 q48 q49 q50 q51 q52 q53 q54 q55 q56 q57 h))))
theorem Big_sub {w : Cond} (h : w ∈ Big) : w ∈ lw_tbl := (List.mem_filter.mp h).1
set_option maxRecDepth 100000 in
set_option maxHeartbeats 4000000 in
/-- the law, from its entry, once its loop is known -/
theorem whole_of {p : Program} {e : Env} {s : State} {m : MethodId} {below : List Frame} {meth : Method} {c : Code} (l : Launch) {b L : Nat} {xs : Nat → Int32} (C0 : lw_At p s m meth c b L xs) (h : ∀ E : EV, K_law_18 E b L xs sg0 0) : W p l e room_1 s m #[Value.ref b] below meth c s.heap [] 0 0 (lw_Z below #[Value.ref b] s) (entryFrame m ([Value.ref b] : List Value).toArray 4) := by
  obtain ⟨hx, hb, hr, hml, hown, hts, hX, hbl, hlocks, hgv⟩ := id C0
  obtain ⟨c0, iS0, hKn0⟩ := u_known (C := RX0) (T := TX0) (N := 8) (n := 8) hts (fun w h => Big_sub (fin_X0 w h)) (hts (.instantiable RX0 8) (List.mem_of_getElem? (i := 108) (by decide +kernel)))
  obtain ⟨c1, iS1, hKn1⟩ := u_known (C := RX1) (T := TX1) (N := 2) (n := 2) hts (fun w h => Big_sub (fin_X1 w h)) (hts (.instantiable RX1 2) (List.mem_of_getElem? (i := 91) (by decide +kernel)))
  obtain ⟨c2, iS2, hKn2⟩ := u_known (C := RX2) (T := TX2) (N := 7) (n := 7) hts (fun w h => Big_sub (fin_X2 w h)) (hts (.instantiable RX2 7) (List.mem_of_getElem? (i := 154) (by decide +kernel)))
  obtain ⟨c3, iS3, hKn3⟩ := u_known (C := RX3) (T := TX3) (N := 8) (n := 8) hts (fun w h => Big_sub (fin_X3 w h)) (hts (.instantiable RX3 8) (List.mem_of_getElem? (i := 189) (by decide +kernel)))
  obtain ⟨c4, iS4, hKn4⟩ := u_known (C := RX4) (T := TX4) (N := 2) (n := 2) hts (fun w h => Big_sub (fin_X4 w h)) (hts (.instantiable RX4 2) (List.mem_of_getElem? (i := 75) (by decide +kernel)))
  obtain ⟨c5, iS5, hKn5⟩ := u_known (C := RX5) (T := TX5) (N := 11) (n := 11) hts (fun w h => Big_sub (fin_X5 w h)) (hts (.instantiable RX5 11) (List.mem_of_getElem? (i := 67) (by decide +kernel)))
  obtain ⟨c6, iS6, hKn6⟩ := u_known (C := RX6) (T := TX6) (N := 31) (n := 31) hts (fun w h => Big_sub (fin_X6 w h)) (hts (.instantiable RX6 31) (List.mem_of_getElem? (i := 661) (by decide +kernel)))
  obtain ⟨a0, hAr0, hRA0⟩ := arrK (t := 0) (hts (.arrayClass .int) (List.mem_of_getElem? (i := 89) (by decide +kernel)))
  obtain ⟨a1, hAr1, hRA1⟩ := arrK (t := 1) (hts (.arrayClass .byte) (List.mem_of_getElem? (i := 422) (by decide +kernel)))
  obtain ⟨a2, hAr2, hRA2⟩ := arrK (t := 2) (hts (.arrayClass .boolean) (List.mem_of_getElem? (i := 760) (by decide +kernel)))
  have hK : va_K (fun k => [c0, c1, c2, c3, c4, c5, c6].getD k 0, fun k => [iS0, iS1, iS2, iS3, iS4, iS5, iS6].getD k (fun _ => 0)) vwCl (tysN (fun k => [a0, a1, a2].getD k 0)) s := by
    refine ⟨fun k q hq => ?_, fun k q hq => ?_⟩
    · match k, hq with
      | 0, hq => cases hq; exact hKn0
      | 1, hq => cases hq; exact hKn1
      | 2, hq => cases hq; exact hKn2
      | 3, hq => cases hq; exact hKn3
      | 4, hq => cases hq; exact hKn4
      | 5, hq => cases hq; exact hKn5
      | 6, hq => cases hq; exact hKn6
      | k + 7, hq => simp [vwCl] at hq
    · match k, hq with
      | 0, hq => cases hq; exact ⟨hAr0, hRA0⟩
      | 1, hq => cases hq; exact ⟨hAr1, hRA1⟩
      | 2, hq => cases hq; exact ⟨hAr2, hRA2⟩
      | k + 3, hq => simp [tysN] at hq
  have hl := lv_entry ([.ref b]) (n := 4) (Nat.le_of_ble_eq_true rfl)
  rw [lg_entry_eq]
  refine law_start h p l e s m #[Value.ref b] below meth c ⟨hx, hb, hml, hown, fun w hw => hts w (Big_sub hw), hK, fun _ h => h, fun q hq => va_Nw.of rfl (hts _ (nest_words q hq)), rfl, hX, hbl, hr, hlocks, hgv, hts⟩ s.heap [] _ (fun k q h => by simp at h) ⟨fun i j p q h => by simp at h, fun k q h => by simp at h⟩ va_S.rf ?_
  refine lvP_of hl (fun i v hi => ?_)
  match i, hi with
  | 0, hi => cases hi; exact List.mem_cons_self
  | 1, hi => cases hi
  | 2, hi => cases hi
  | 3, hi => cases hi
  | n + 4, hi => simp at hi
