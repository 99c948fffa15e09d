/-! ===== the law: each call ===== -/
theorem vp_k {n k i : Nat} (hn : n < 2 ^ 30) (hk : k + 6 ≤ n) (hi : i < 6) : vp_in (nI k + nI i) n := by
  rw [nI_add]; exact vpn (by omega) (by omega)
theorem L_origins {E : EV} {b n k : Nat} {xs : Nat → Int32} {σ : Sg} {A : Ab} (hn : n < 2 ^ 30) (hk : k + 6 ≤ n) (hC : RepC σ A) (hM : RepM σ A) (g : Good A) (next : ∀ υ A2, RepC υ A2 → RepM υ A2 → Good A2 → K_law_18 E b n xs υ (nI k + 6)) : K_law_349 E b n xs σ (nI k) :=
  B_law_349 (show _ from by
    refine ⟨vp_k hn hk (i := 1) (by omega), vp_k hn hk (i := 2) (by omega), vp_k hn hk (i := 3) (by omega), C_origins hC g (fun τ f => R_origins (hM.fr f (by omega)) g (fun υ f2 h2 => ⟨fun _ => B_law_915 (next υ A ((hC.fr f (by omega)).fr f2 (by omega)) h2 g), fun z => absurd rfl z⟩))⟩)
theorem L_voice {E : EV} {b n k : Nat} {xs : Nat → Int32} {σ : Sg} {A : Ab} (hn : n < 2 ^ 30) (hk : k + 6 ≤ n) (hC : RepC σ A) (hM : RepM σ A) (g : Good A) (next : ∀ υ A2, RepC υ A2 → RepM υ A2 → Good A2 → K_law_18 E b n xs υ (nI k + 6)) : K_law_392 E b n xs σ (nI k) :=
  B_law_392 (show _ from by
    refine ⟨vp_k hn hk (i := 1) (by omega), vp_k hn hk (i := 2) (by omega), vp_k hn hk (i := 3) (by omega), C_voice hC g (fun τ f => R_voice (hM.fr f (by omega)) g (fun υ f2 h2 => ⟨fun _ => B_law_915 (next υ A ((hC.fr f (by omega)).fr f2 (by omega)) h2 g), fun z => absurd rfl z⟩))⟩)
theorem L_law {E : EV} {b n k : Nat} {xs : Nat → Int32} {σ : Sg} {A : Ab} (hn : n < 2 ^ 30) (hk : k + 6 ≤ n) (hC : RepC σ A) (hM : RepM σ A) (g : Good A) (next : ∀ υ A2, RepC υ A2 → RepM υ A2 → Good A2 → K_law_18 E b n xs υ (nI k + 6)) : K_law_435 E b n xs σ (nI k) :=
  B_law_435 (show _ from by
    refine ⟨vp_k hn hk (i := 1) (by omega), vp_k hn hk (i := 2) (by omega), vp_k hn hk (i := 3) (by omega), C_law hC g (fun τ f => R_lawX (hM.fr f (by omega)) g (fun υ f2 h2 => ⟨fun _ => B_law_915 (next υ A ((hC.fr f (by omega)).fr f2 (by omega)) h2 g), fun z => absurd rfl z⟩))⟩)
theorem L_place {E : EV} {b n k : Nat} {xs : Nat → Int32} {σ : Sg} {A : Ab} (hn : n < 2 ^ 30) (hk : k + 6 ≤ n) (hC : RepC σ A) (hM : RepM σ A) (g : Good A) (next : ∀ υ A2, RepC υ A2 → RepM υ A2 → Good A2 → K_law_18 E b n xs υ (nI k + 6)) : K_law_478 E b n xs σ (nI k) :=
  B_law_478 (show _ from by
    refine ⟨vp_k hn hk (i := 1) (by omega), C_place hC g (fun τ f => R_place (hM.fr f (by omega)) g (fun υ f2 h2 => ⟨fun _ => B_law_915 (next υ A ((hC.fr f (by omega)).fr f2 (by omega)) h2 g), fun z => absurd rfl z⟩))⟩)
theorem L_stands {E : EV} {b n k : Nat} {xs : Nat → Int32} {σ : Sg} {A : Ab} (hn : n < 2 ^ 30) (hk : k + 6 ≤ n) (hC : RepC σ A) (hM : RepM σ A) (g : Good A) (next : ∀ υ A2, RepC υ A2 → RepM υ A2 → Good A2 → K_law_18 E b n xs υ (nI k + 6)) : K_law_501 E b n xs σ (nI k) :=
  B_law_501 (show _ from by
    refine ⟨vp_k hn hk (i := 1) (by omega), C_stands hC g (fun τ f => R_stands (hM.fr f (by omega)) g (fun υ f2 h2 => ⟨fun _ => B_law_915 (next υ A ((hC.fr f (by omega)).fr f2 (by omega)) h2 g), fun z => absurd rfl z⟩))⟩)
theorem L_falls {E : EV} {b n k : Nat} {xs : Nat → Int32} {σ : Sg} {A : Ab} (hn : n < 2 ^ 30) (hk : k + 6 ≤ n) (hC : RepC σ A) (hM : RepM σ A) (g : Good A) (next : ∀ υ A2, RepC υ A2 → RepM υ A2 → Good A2 → K_law_18 E b n xs υ (nI k + 6)) : K_law_524 E b n xs σ (nI k) :=
  B_law_524 (show _ from by
    refine ⟨vp_k hn hk (i := 1) (by omega), C_falls hC g (fun τ f => R_falls (hM.fr f (by omega)) g (fun υ f2 h2 => ⟨fun _ => B_law_915 (next υ A ((hC.fr f (by omega)).fr f2 (by omega)) h2 g), fun z => absurd rfl z⟩))⟩)
theorem L_alone {E : EV} {b n k : Nat} {xs : Nat → Int32} {σ : Sg} {A : Ab} (hn : n < 2 ^ 30) (hk : k + 6 ≤ n) (hC : RepC σ A) (hM : RepM σ A) (g : Good A) (next : ∀ υ A2, RepC υ A2 → RepM υ A2 → Good A2 → K_law_18 E b n xs υ (nI k + 6)) : K_law_547 E b n xs σ (nI k) :=
  B_law_547 (show _ from by
    refine ⟨vp_k hn hk (i := 1) (by omega), C_alone hC g (fun τ f => R_alone (hM.fr f (by omega)) g (fun υ f2 h2 => ⟨fun _ => B_law_915 (next υ A ((hC.fr f (by omega)).fr f2 (by omega)) h2 g), fun z => absurd rfl z⟩))⟩)
theorem L_empty {E : EV} {b n k : Nat} {xs : Nat → Int32} {σ : Sg} {A : Ab} (hn : n < 2 ^ 30) (hk : k + 6 ≤ n) (hC : RepC σ A) (hM : RepM σ A) (g : Good A) (next : ∀ υ A2, RepC υ A2 → RepM υ A2 → Good A2 → K_law_18 E b n xs υ (nI k + 6)) : K_law_570 E b n xs σ (nI k) :=
  B_law_570 (show _ from by
    refine C_empty hC g (fun τ f => R_empty (hM.fr f (by omega)) g (fun υ f2 h2 => ⟨fun _ => B_law_915 (next υ A ((hC.fr f (by omega)).fr f2 (by omega)) h2 g), fun z => absurd rfl z⟩)))
theorem L_keepAt {E : EV} {b n k : Nat} {xs : Nat → Int32} {σ : Sg} {A : Ab} (hn : n < 2 ^ 30) (hk : k + 6 ≤ n) (hC : RepC σ A) (hM : RepM σ A) (g : Good A) (next : ∀ υ A2, RepC υ A2 → RepM υ A2 → Good A2 → K_law_18 E b n xs υ (nI k + 6)) : K_law_692 E b n xs σ (nI k) :=
  B_law_692 (show _ from by
    refine ⟨vp_k hn hk (i := 1) (by omega), vp_k hn hk (i := 2) (by omega), C_keepAt hC g (fun τ f => R_keepAt (hM.fr f (by omega)) g (fun υ f2 h2 => ⟨fun _ => B_law_915 (next υ A ((hC.fr f (by omega)).fr f2 (by omega)) h2 g), fun z => absurd rfl z⟩))⟩)
theorem L_hints {E : EV} {b n k : Nat} {xs : Nat → Int32} {σ : Sg} {A : Ab} (hn : n < 2 ^ 30) (hk : k + 6 ≤ n) (hC : RepC σ A) (hM : RepM σ A) (g : Good A) (next : ∀ υ A2, RepC υ A2 → RepM υ A2 → Good A2 → K_law_18 E b n xs υ (nI k + 6)) : K_law_583 E b n xs σ (nI k) :=
  B_law_583 (show _ from by
    refine ⟨vp_k hn hk (i := 1) (by omega), vp_k hn hk (i := 2) (by omega), C_hints hC g (fun τ f => R_hints (hM.fr f (by omega)) g (fun υ f2 h2 => ⟨fun _ => B_law_915 (next υ A ((hC.fr f (by omega)).fr f2 (by omega)) h2 g), fun z => absurd rfl z⟩))⟩)
theorem L_hinder {E : EV} {b n k : Nat} {xs : Nat → Int32} {σ : Sg} {A : Ab} (hn : n < 2 ^ 30) (hk : k + 6 ≤ n) (hC : RepC σ A) (hM : RepM σ A) (g : Good A) (next : ∀ υ A2, RepC υ A2 → RepM υ A2 → Good A2 → K_law_18 E b n xs υ (nI k + 6)) : K_law_616 E b n xs σ (nI k) :=
  B_law_616 (show _ from by
    refine ⟨vp_k hn hk (i := 1) (by omega), vp_k hn hk (i := 2) (by omega), C_hinder hC g (fun τ f => R_hinder (hM.fr f (by omega)) g (fun υ f2 h2 => ⟨fun _ => B_law_915 (next υ A ((hC.fr f (by omega)).fr f2 (by omega)) h2 g), fun z => absurd rfl z⟩))⟩)
theorem L_turns {E : EV} {b n k : Nat} {xs : Nat → Int32} {σ : Sg} {A : Ab} (hn : n < 2 ^ 30) (hk : k + 6 ≤ n) (hC : RepC σ A) (hM : RepM σ A) (g : Good A) (next : ∀ υ A2, RepC υ A2 → RepM υ A2 → Good A2 → K_law_18 E b n xs υ (nI k + 6)) : K_law_649 E b n xs σ (nI k) :=
  B_law_649 (show _ from by
    refine ⟨vp_k hn hk (i := 1) (by omega), vp_k hn hk (i := 2) (by omega), vp_k hn hk (i := 3) (by omega), C_turns hC g (fun τ f => R_turns (hM.fr f (by omega)) g (fun υ f2 h2 => ⟨fun _ => B_law_915 (next υ A ((hC.fr f (by omega)).fr f2 (by omega)) h2 g), fun z => absurd rfl z⟩))⟩)
theorem L_clear {E : EV} {b n k : Nat} {xs : Nat → Int32} {σ : Sg} {A : Ab} (hn : n < 2 ^ 30) (hk : k + 6 ≤ n) (hC : RepC σ A) (hM : RepM σ A) (g : Good A) (next : ∀ υ A2, RepC υ A2 → RepM υ A2 → Good A2 → K_law_18 E b n xs υ (nI k + 6)) : K_law_211 E b n xs σ (nI k) :=
  B_law_211 (show _ from by
    refine C_clear hC (fun τ f h1 => R_clear (hM.fr f (by omega)) (fun υ f2 h2 => ⟨fun _ => B_law_915 (next υ _ (h1.fr f2 (by omega)) h2 (G_clear g)), fun z => absurd rfl z⟩)))
theorem L_tell {E : EV} {b n k : Nat} {xs : Nat → Int32} {σ : Sg} {A : Ab} (hn : n < 2 ^ 30) (hk : k + 6 ≤ n) (hC : RepC σ A) (hM : RepM σ A) (g : Good A) (next : ∀ υ A2, RepC υ A2 → RepM υ A2 → Good A2 → K_law_18 E b n xs υ (nI k + 6)) : K_law_224 E b n xs σ (nI k) :=
  B_law_224 (show _ from by
    refine C_tellText hC g (fun τ f h1 => R_tellText (hM.fr f (by omega)) g (fun υ f2 h2 => ⟨fun _ => B_law_915 (next υ _ (h1.fr f2 (by omega)) h2 (G_tell g)), fun z => absurd rfl z⟩)))
theorem L_comes {E : EV} {b n k : Nat} {xs : Nat → Int32} {σ : Sg} {A : Ab} (hn : n < 2 ^ 30) (hk : k + 6 ≤ n) (hC : RepC σ A) (hM : RepM σ A) (g : Good A) (next : ∀ υ A2, RepC υ A2 → RepM υ A2 → Good A2 → K_law_18 E b n xs υ (nI k + 6)) : K_law_270 E b n xs σ (nI k) :=
  B_law_270 (show _ from by
    refine ⟨vp_k hn hk (i := 1) (by omega), vp_k hn hk (i := 2) (by omega), vp_k hn hk (i := 3) (by omega), C_comes hC g (fun τ f h1 => R_comes (hM.fr f (by omega)) g (fun υ f2 h2 => ⟨fun _ => B_law_915 (next υ _ (h1.fr f2 (by omega)) h2 (G_comes g)), fun z => absurd rfl z⟩))⟩)
theorem L_days {E : EV} {b n k : Nat} {xs : Nat → Int32} {σ : Sg} {A : Ab} (hn : n < 2 ^ 30) (hk : k + 6 ≤ n) (hC : RepC σ A) (hM : RepM σ A) (g : Good A) (next : ∀ υ A2, RepC υ A2 → RepM υ A2 → Good A2 → K_law_18 E b n xs υ (nI k + 6)) : K_law_313 E b n xs σ (nI k) :=
  B_law_313 (show _ from by
    refine ⟨vp_k hn hk (i := 1) (by omega), C_days hC g (fun τ f h1 => R_days (hM.fr f (by omega)) g (fun υ f2 h2 => ⟨fun _ => B_law_915 (next υ _ (h1.fr f2 (by omega)) h2 (G_days g)), fun z => absurd rfl z⟩))⟩)
theorem L_undo {E : EV} {b n k : Nat} {xs : Nat → Int32} {σ : Sg} {A : Ab} (hn : n < 2 ^ 30) (hk : k + 6 ≤ n) (hC : RepC σ A) (hM : RepM σ A) (g : Good A) (next : ∀ υ A2, RepC υ A2 → RepM υ A2 → Good A2 → K_law_18 E b n xs υ (nI k + 6)) : K_law_336 E b n xs σ (nI k) :=
  B_law_336 (show _ from by
    refine C_undo hC g (fun τ f h1 => R_undo (hM.fr f (by omega)) g (fun υ f2 h2 => ⟨fun _ => B_law_915 (next υ _ (h1.fr f2 (by omega)) h2 (G_undo g)), fun z => absurd rfl z⟩)))
theorem L_mark {E : EV} {b n k : Nat} {xs : Nat → Int32} {σ : Sg} {A : Ab} (hn : n < 2 ^ 30) (hk : k + 6 ≤ n) (hC : RepC σ A) (hM : RepM σ A) (g : Good A) (next : ∀ υ A2, RepC υ A2 → RepM υ A2 → Good A2 → K_law_18 E b n xs υ (nI k + 6)) : K_law_789 E b n xs σ (nI k) :=
  B_law_789 (show _ from by
    refine ⟨vp_k hn hk (i := 1) (by omega), vp_k hn hk (i := 2) (by omega), vp_k hn hk (i := 3) (by omega), C_mark hC g (fun τ f h1 => R_mark (hM.fr f (by omega)) g (fun υ f2 h2 => ⟨fun _ => B_law_915 (next υ _ (h1.fr f2 (by omega)) h2 (G_mark g)), fun z => absurd rfl z⟩))⟩)
theorem L_keep {E : EV} {b n k : Nat} {xs : Nat → Int32} {σ : Sg} {A : Ab} (hn : n < 2 ^ 30) (hk : k + 6 ≤ n) (hC : RepC σ A) (hM : RepM σ A) (g : Good A) (next : ∀ υ A2, RepC υ A2 → RepM υ A2 → Good A2 → K_law_18 E b n xs υ (nI k + 6)) : K_law_832 E b n xs σ (nI k) :=
  B_law_832 (show _ from by
    refine ⟨vp_k hn hk (i := 1) (by omega), C_keep hC g (fun τ f h1 => R_keep (hM.fr f (by omega)) g (fun υ f2 h2 => ⟨fun _ => B_law_915 (next υ _ (h1.fr f2 (by omega)) h2 (G_keep g)), fun z => absurd rfl z⟩))⟩)
theorem L_back {E : EV} {b n k : Nat} {xs : Nat → Int32} {σ : Sg} {A : Ab} (hn : n < 2 ^ 30) (hk : k + 6 ≤ n) (hC : RepC σ A) (hM : RepM σ A) (g : Good A) (next : ∀ υ A2, RepC υ A2 → RepM υ A2 → Good A2 → K_law_18 E b n xs υ (nI k + 6)) : K_law_855 E b n xs σ (nI k) :=
  B_law_855 (show _ from by
    refine ⟨vp_k hn hk (i := 1) (by omega), C_back hC g (fun τ f h1 => R_back (hM.fr f (by omega)) g (fun υ f2 h2 => ⟨fun _ => B_law_915 (next υ _ (h1.fr f2 (by omega)) h2 (G_back g)), fun z => absurd rfl z⟩))⟩)
