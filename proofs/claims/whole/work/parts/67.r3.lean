/-! ===== the reference: ITEMS ===== -/
/-- only the reader's numbers and its own rows have changed -/
def Sc (σ τ : Sg) : Prop := (∀ k, k ∉ [4012, 4013, 4014, 4015, 4016] → gi τ k = gi σ k) ∧ (∀ k, gl τ k = gl σ k) ∧ (∀ a, (a < 42 ∨ 49 < a) → gm τ a = gm σ a) ∧ gm τ 42 0 = gm σ 42 0 ∧ (∀ i, i < 8 → gm τ 43 i = gm σ 43 i) ∧ (∀ a, (a = 44 ∨ a = 45) → ∀ j, j ≠ 1 → gm τ a j = gm σ a j) ∧ ∀ a, (46 ≤ a ∧ a ≤ 49) → ∀ j, (j < 40 ∨ 80 ≤ j) → gm τ a j = gm σ a j
theorem Sc.rf {σ : Sg} : Sc σ σ := ⟨fun _ _ => rfl, fun _ => rfl, fun _ _ => rfl, rfl, fun _ _ => rfl, fun _ _ _ _ => rfl, fun _ _ _ _ => rfl⟩
theorem Sc.tr {σ τ υ : Sg} (h : Sc σ τ) (h2 : Sc τ υ) : Sc σ υ := ⟨fun k q => (h2.1 k q).trans (h.1 k q), fun k => (h2.2.1 k).trans (h.2.1 k), fun a q => (h2.2.2.1 a q).trans (h.2.2.1 a q), h2.2.2.2.1.trans h.2.2.2.1, fun i q => (h2.2.2.2.2.1 i q).trans (h.2.2.2.2.1 i q), fun a q j w => (h2.2.2.2.2.2.1 a q j w).trans (h.2.2.2.2.2.1 a q j w), fun a q j w => (h2.2.2.2.2.2.2 a q j w).trans (h.2.2.2.2.2.2 a q j w)⟩
theorem Fx.sc {σ τ : Sg} (f : Fx [4012, 4013, 4014, 4015] 58 57 σ τ) : Sc σ τ := ⟨fun k q => f.1 k (fun z => q (by simp at z ⊢; omega)), f.2.1, fun a _ => f.2.2 a (by omega), by rw [f.2.2 42 (by omega)], fun i _ => by rw [f.2.2 43 (by omega)], fun a _ j _ => by rw [f.2.2 a (by omega)], fun a _ j _ => by rw [f.2.2 a (by omega)]⟩
theorem Sc.si {σ τ : Sg} {k : Nat} {v : Int32} (h : Sc σ τ) (hk : k ∈ [4012, 4013, 4014, 4015, 4016]) : Sc σ (si τ k v) := ⟨fun j q => by rw [gi_si_n (fun z => q (by rw [z]; exact hk))]; exact h.1 j q, h.2⟩
theorem Sc.s42 {σ τ : Sg} {v : Int32} (h : Sc σ τ) : Sc σ (sm τ 42 1 v) := by
  refine ⟨h.1, h.2.1, fun a q => by rw [gm_sm_n (by omega)]; exact h.2.2.1 a q, ?_, fun i q => by rw [gm_sm_n (by omega)]; exact h.2.2.2.2.1 i q, fun a q j w => by rw [gm_sm_n (by omega)]; exact h.2.2.2.2.2.1 a q j w, fun a q j w => by rw [gm_sm_n (by omega)]; exact h.2.2.2.2.2.2 a q j w⟩
  rw [gm_sm_s, upd_n (by omega)]; exact h.2.2.2.1
theorem Sc.s43 {σ τ : Sg} {m : Nat} {v : Int32} (h : Sc σ τ) : Sc σ (sm τ 43 (8 + m) v) := by
  refine ⟨h.1, h.2.1, fun a q => by rw [gm_sm_n (by omega)]; exact h.2.2.1 a q, by rw [gm_sm_n (by omega)]; exact h.2.2.2.1, fun i q => ?_, fun a q j w => by rw [gm_sm_n (by omega)]; exact h.2.2.2.2.2.1 a q j w, fun a q j w => by rw [gm_sm_n (by omega)]; exact h.2.2.2.2.2.2 a q j w⟩
  rw [gm_sm_s, upd_n (by omega)]; exact h.2.2.2.2.1 i q
theorem Sc.s44 {σ τ : Sg} {b : Nat} {v : Int32} (h : Sc σ τ) (hb : b = 44 ∨ b = 45) : Sc σ (sm τ b 1 v) := by
  refine ⟨h.1, h.2.1, fun a q => by rw [gm_sm_n (by omega)]; exact h.2.2.1 a q, by rw [gm_sm_n (by omega)]; exact h.2.2.2.1, fun i q => by rw [gm_sm_n (by omega)]; exact h.2.2.2.2.1 i q, fun a q j w => ?_, fun a q j w => by rw [gm_sm_n (by omega)]; exact h.2.2.2.2.2.2 a q j w⟩
  by_cases e : a = b
  · subst e; rw [gm_sm_s, upd_n w]; exact h.2.2.2.2.2.1 a q j w
  · rw [gm_sm_n e]; exact h.2.2.2.2.2.1 a q j w
theorem Sc.row {σ τ : Sg} {b m : Nat} {v : Int32} (h : Sc σ τ) (hb : 46 ≤ b ∧ b ≤ 49) (hm : m < 40) : Sc σ (sm τ b (40 + m) v) := by
  refine ⟨h.1, h.2.1, fun a q => by rw [gm_sm_n (by omega)]; exact h.2.2.1 a q, by rw [gm_sm_n (by omega)]; exact h.2.2.2.1, fun i q => by rw [gm_sm_n (by omega)]; exact h.2.2.2.2.1 i q, fun a q j w => by rw [gm_sm_n (by omega)]; exact h.2.2.2.2.2.1 a q j w, fun a q j w => ?_⟩
  by_cases e : a = b
  · subst e; rw [gm_sm_s, upd_n (by omega)]; exact h.2.2.2.2.2.2 a q j w
  · rw [gm_sm_n e]; exact h.2.2.2.2.2.2 a q j w
theorem TxM.sc {σ τ : Sg} {X : List Nat} (h : TxM σ X) (f : Sc σ τ) : TxM τ X := ⟨(f.1 4002 (by simp)).trans h.1, fun k hk => by rw [f.2.2.1 41 (by omega)]; exact h.2 k hk⟩
theorem Sc.fr {σ τ : Sg} (h : Sc σ τ) : Fr 40 57 σ τ := ⟨fun k q => h.1 k (fun z => by simp at z; omega), fun k _ => h.2.1 k, fun a q => h.2.2.1 a (by omega)⟩
theorem RepM.sc {σ τ : Sg} {A : Ab} (h : RepM σ A) (g : Good A) (f : Sc σ τ) : RepM τ A := by
  obtain ⟨⟨h1, h1b⟩, h2, h3, h4, h5, h6⟩ := h
  have ev : ∀ r u, r ≠ 1 → u.1.length ≤ 40 → EvM σ r u → EvM τ r u := by
    intro r u hr hl ⟨g2, g3, g4⟩
    refine ⟨by rw [f.2.2.2.2.2.1 44 (by omega) r hr]; exact g2, by rw [f.2.2.2.2.2.1 45 (by omega) r hr]; exact g3, fun k hk => ?_⟩
    rw [f.2.2.2.2.2.2 46 (by omega) _ (by omega), f.2.2.2.2.2.2 47 (by omega) _ (by omega), f.2.2.2.2.2.2 48 (by omega) _ (by omega), f.2.2.2.2.2.2 49 (by omega) _ (by omega)]; exact g4 k hk
  have im : ∀ i u, (∀ t, u = some t → t.1.length ≤ 40) → ImM σ i u → ImM τ i u := by
    intro i u hl hu
    cases u with
    | none => show gm τ 50 i = 0; rw [f.2.2.1 50 (by omega)]; exact hu
    | some u => exact ⟨by rw [f.2.2.1 50 (by omega)]; exact hu.1, ev _ _ (by omega) (hl u rfl) hu.2⟩
  have hP := g.1.1
  exact ⟨⟨f.2.2.2.1.trans h1, fun k hk => by rw [f.2.2.2.2.1 k (by omega)]; exact h1b k hk⟩, ev _ _ (by omega) g.2.1.1 h2, h3.sc f, im _ _ (fun t ht => (g.2.2.2.1 t ht).1) h4, im _ _ (fun t ht => (g.2.2.2.2 t ht).1) h5, by rw [f.2.1]; exact h6.1, by rw [TI, f.1 4025 (by simp)]; exact h6.2⟩
/-! what has been read -/
def FoS (σ : Sg) (P : List Nat) : Prop := gm σ 42 1 = nI P.length ∧ ∀ k, k < P.length → gm σ 43 (8 + k) = nI (gd P k)
def EvS (σ : Sg) (L : List Ev) : Prop := gm σ 44 1 = nI L.length ∧ ∀ k, k < L.length → gm σ 46 (40 + k) = nI (ge L k).1 ∧ gm σ 47 (40 + k) = nI (ge L k).2.1 ∧ gm σ 48 (40 + k) = nI (ge L k).2.2.1 ∧ gm σ 49 (40 + k) = nI (ge L k).2.2.2
theorem FoS.fx {K : List Nat} {σ τ : Sg} {P : List Nat} (h : FoS σ P) (f : Fx K 58 57 σ τ) : FoS τ P := ⟨by rw [f.2.2 42 (by omega)]; exact h.1, fun k hk => by rw [f.2.2 43 (by omega)]; exact h.2 k hk⟩
theorem EvS.fx {K : List Nat} {σ τ : Sg} {L : List Ev} (h : EvS σ L) (f : Fx K 58 57 σ τ) : EvS τ L := ⟨by rw [f.2.2 44 (by omega)]; exact h.1, fun k hk => by rw [f.2.2 46 (by omega), f.2.2 47 (by omega), f.2.2 48 (by omega), f.2.2 49 (by omega)]; exact h.2 k hk⟩
/-! behind a fault nothing else happens -/
theorem F275 {E : EV} {Q : Sg → Prop} {σ : Sg} {v1 v2 : Int32} (hf : ¬ gi σ 4016 = -9) (hq : Q σ) : K_X6_readItem_275 E Q σ v1 v2 := B_X6_readItem_275 ⟨fun _ => R_dueF hf hq, fun _ => R_dueF hf hq⟩
theorem F265 {E : EV} {Q : Sg → Prop} {σ : Sg} {v1 v2 v3 : Int32} (hf : ¬ gi σ 4016 = -9) (hq : ∀ υ, Sc σ υ → gi υ 4016 = gi σ 4016 → Q υ) : K_X6_readItem_265 E Q σ v1 v2 v3 := B_X6_readItem_265 (F275 hf (hq _ (Sc.rf.s44 (Or.inl rfl)) rfl))
theorem F246 {E : EV} {Q : Sg → Prop} {σ : Sg} {v1 v2 v3 s0 : Int32} {m : Nat} (hm : m < 40) (hf : ¬ gi σ 4016 = -9) (hq : ∀ υ, Sc σ υ → gi υ 4016 = gi σ 4016 → Q υ) : K_X6_readItem_246 E Q σ v1 v2 v3 s0 (nI (40 + m)) := by
  refine B_X6_readItem_246 (R_dueF hf ⟨vpn (by omega) (by omega), ?_⟩)
  rw [cl (by omega)]
  exact F265 hf (fun υ f e => hq υ ((Sc.rf.row (by omega) hm).tr f) e)
/-- the second and third number in fault -/
theorem F3 {E : EV} {Q : Sg → Prop} {σ : Sg} {v1 v2 : Int32} {m : Nat} (hm : m < 40) (hf : ¬ gi σ 4016 = -9) (hq : ∀ υ, Sc σ υ → gi υ 4016 = gi σ 4016 → Q υ) : (((1 : Int32) < v1) → MetI E mi_X6_number [.ref 40, .int (0 : Int32), .int (3 : Int32)] σ (fun τ8 r9 => K_X6_readItem_265 E Q (sm τ8 49 (40 + m) r9) v1 v2 (nI (40 + m)))) ∧ ((¬ (1 : Int32) < v1) → ((¬ (gi σ 4014) = (7 : Int32)) → K_X6_readItem_246 E Q σ v1 v2 (nI (40 + m)) (0 : Int32) (nI (40 + m))) ∧ (((gi σ 4014) = (7 : Int32)) → MetI E mi_X6_in [.int (gi σ 4015), .int (0 : Int32), .int (((gm σ 42) 1) - (1 : Int32))] σ (fun τ12 r13 => ((r13 = 0) → K_X6_readItem_246 E Q τ12 v1 v2 (nI (40 + m)) (0 : Int32) (nI (40 + m))) ∧ ((¬ r13 = 0) → (((gi τ12 4015) = ((gm τ12 48) (40 + m))) → K_X6_readItem_246 E Q τ12 v1 v2 (nI (40 + m)) (0 : Int32) (nI (40 + m))) ∧ ((¬ (gi τ12 4015) = ((gm τ12 48) (40 + m))) → K_X6_readItem_246 E Q τ12 v1 v2 (nI (40 + m)) (1 : Int32) (nI (40 + m))))))) := by
  refine ⟨fun _ => R_numF hf ?_, fun _ => ⟨fun _ => F246 hm hf hq, fun _ => R_in ⟨fun _ => F246 hm hf hq, fun _ => ⟨fun _ => F246 hm hf hq, fun _ => F246 hm hf hq⟩⟩⟩⟩
  exact F265 hf (fun υ f e => hq υ ((Sc.rf.row (by omega) hm).tr f) e)
theorem F2 {E : EV} {Q : Sg → Prop} {σ : Sg} {v1 v2 a b : Int32} {m : Nat} (hm : m < 40) (hf : ¬ gi σ 4016 = -9) (hq : ∀ υ, Sc σ υ → gi υ 4016 = gi σ 4016 → Q υ) : MetI E mi_X6_number [.ref 40, .int a, .int b] σ (fun τ4 r5 => vp_in (nI (40 + m)) 160 ∧ (((1 : Int32) < v1) → MetI E mi_X6_number [.ref 40, .int (0 : Int32), .int (3 : Int32)] (sm τ4 48 (40 + m) r5) (fun τ8 r9 => K_X6_readItem_265 E Q (sm τ8 49 (40 + m) r9) v1 v2 (nI (40 + m)))) ∧ ((¬ (1 : Int32) < v1) → ((¬ (gi τ4 4014) = (7 : Int32)) → K_X6_readItem_246 E Q (sm τ4 48 (40 + m) r5) v1 v2 (nI (40 + m)) (0 : Int32) (nI (40 + m))) ∧ (((gi τ4 4014) = (7 : Int32)) → MetI E mi_X6_in [.int (gi τ4 4015), .int (0 : Int32), .int (((gm τ4 42) 1) - (1 : Int32))] (sm τ4 48 (40 + m) r5) (fun τ12 r13 => ((r13 = 0) → K_X6_readItem_246 E Q τ12 v1 v2 (nI (40 + m)) (0 : Int32) (nI (40 + m))) ∧ ((¬ r13 = 0) → (((gi τ12 4015) = ((gm τ12 48) (40 + m))) → K_X6_readItem_246 E Q τ12 v1 v2 (nI (40 + m)) (0 : Int32) (nI (40 + m))) ∧ ((¬ (gi τ12 4015) = ((gm τ12 48) (40 + m))) → K_X6_readItem_246 E Q τ12 v1 v2 (nI (40 + m)) (1 : Int32) (nI (40 + m)))))))) := by
  refine R_numF hf ⟨vpn (by omega) (by omega), ?_⟩
  have := F3 (E := E) (Q := Q) (σ := sm σ 48 (40 + m) (gi σ 4015)) (v1 := v1) (v2 := v2) hm hf (fun υ f e => hq υ ((Sc.rf.row (by omega) hm).tr f) e)
  exact this
