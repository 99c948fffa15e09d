/-! ===== the law's loop ===== -/
theorem L_type {E : EV} {b n k : Nat} {xs : Nat → Int32} {σ : Sg} {A : Ab} (hn : n < 2 ^ 30) (hk : k + 6 ≤ n) (hC : RepC σ A) (hM : RepM σ A) (g : Good A) (next : ∀ υ A2, RepC υ A2 → RepM υ A2 → Good A2 → K_law_18 E b n xs υ (nI k + 6)) : K_law_148 E b n xs σ (nI k) :=
  B_law_148 (show _ from by
    refine ⟨vp_k hn hk (i := 1) (by omega), vp_k hn hk (i := 2) (by omega), vp_k hn hk (i := 3) (by omega), C_type hC g (fun τ f h1 => R_type (hM.fr f (by omega)) g (fun υ f2 h2 => ⟨fun _ => B_law_915 (next υ _ (h1.fr f2 (by omega)) h2 (G_type g)), fun z => absurd rfl z⟩))⟩)
theorem L_chance {E : EV} {b n k : Nat} {xs : Nat → Int32} {σ : Sg} {A : Ab} (hn : n < 2 ^ 30) (hk : k + 6 ≤ n) (hC : RepC σ A) (hM : RepM σ A) (g : Good A) (next : ∀ υ A2, RepC υ A2 → RepM υ A2 → Good A2 → K_law_18 E b n xs υ (nI k + 6)) : K_law_725 E b n xs σ (nI k) :=
  B_law_725 (show _ from by
    refine ⟨vp_k hn hk (i := 1) (by omega), vp_k hn hk (i := 2) (by omega), vp_k hn hk (i := 3) (by omega), vp_k hn hk (i := 4) (by omega), vp_k hn hk (i := 5) (by omega), C_chance hC g (fun τ f => R_chance (hM.fr f (by omega)) g (fun υ f2 h2 => ⟨fun _ => B_law_915 (next υ A ((hC.fr f (by omega)).fr f2 (by omega)) h2 g), fun z => absurd ((lg_cmp_eq _ _).mpr rfl) z⟩))⟩)
theorem L_event {E : EV} {b n k : Nat} {xs : Nat → Int32} {σ : Sg} {A : Ab} (hn : n < 2 ^ 30) (hk : k + 6 ≤ n) (hC : RepC σ A) (hM : RepM σ A) (g : Good A) (next : ∀ υ A2, RepC υ A2 → RepM υ A2 → Good A2 → K_law_18 E b n xs υ (nI k + 6)) : K_law_237 E b n xs σ (nI k) :=
  B_law_237 (show _ from by
    refine ⟨vp_k hn hk (i := 1) (by omega), vp_k hn hk (i := 2) (by omega), C_event hC g (R_event hM g ⟨fun _ => B_law_915 (next σ A hC hM g), fun z => absurd rfl z⟩)⟩)
theorem L_count {E : EV} {b n k : Nat} {xs : Nat → Int32} {σ : Sg} {A : Ab} (hn : n < 2 ^ 30) (hk : k + 6 ≤ n) (hC : RepC σ A) (hM : RepM σ A) (g : Good A) (next : ∀ υ A2, RepC υ A2 → RepM υ A2 → Good A2 → K_law_18 E b n xs υ (nI k + 6)) : K_law_878 E b n xs σ (nI k) :=
  B_law_878 (show _ from by
    refine ⟨vp_k hn hk (i := 1) (by omega), C_count hC (R_count hM g ⟨fun _ => B_law_915 (next σ A hC hM g), fun z => absurd rfl z⟩)⟩)
theorem L_trace {E : EV} {b n k : Nat} {xs : Nat → Int32} {σ : Sg} {A : Ab} (hC : RepC σ A) (hM : RepM σ A) (g : Good A) (next : ∀ υ A2, RepC υ A2 → RepM υ A2 → Good A2 → K_law_18 E b n xs υ (nI k + 6)) : K_law_901 E b n xs σ (nI k) :=
  B_law_901 (show _ from by
    refine C_trace hC (R_trace hM ⟨fun _ => B_law_915 (next σ A hC hM g), fun z => absurd ((lg_cmp_eq _ _).mpr rfl) z⟩))
theorem law_loop {E : EV} {b n : Nat} {xs : Nat → Int32} (hn : n < 2 ^ 30) : ∀ (j k : Nat) (σ : Sg) (A : Ab), n ≤ k + j → k < 2 ^ 30 + 6 → RepC σ A → RepM σ A → Good A → K_law_18 E b n xs σ (nI k)
  | j, k, σ, A, hj, hk30, hC, hM, g => by
    have hi : (Int32.ofNat n - 6 : Int32).toInt = (n : Int) - 6 := by
      show (nI n - nI 6).toInt = _
      rw [pk_sub_toInt hn (by omega)]; rfl
    have hc : (Int32.ofNat n - 6 : Int32) < nI k ↔ n < k + 6 := by
      rw [Int32.lt_iff_toInt_lt, hi, nIt (by omega)]; omega
    refine B_law_18 ⟨fun _ => trivial, fun z => ?_⟩
    rw [hc] at z
    have hk : k + 6 ≤ n := by omega
    have next : ∀ υ A2, RepC υ A2 → RepM υ A2 → Good A2 → K_law_18 E b n xs υ (nI k + 6) := by
      intro υ A2 c m g2
      rw [show (6 : Int32) = nI 6 from rfl, nI_add]
      match j, hj with
      | 0, hj => exact absurd hj (by omega)
      | j + 1, hj => exact law_loop hn j (k + 6) υ A2 (by omega) (by omega) c m g2
    refine ⟨vpn (by omega) (by omega), fun _ => B_law_915 (next σ A hC hM g), fun _ => L_type hn hk hC hM g next, fun _ => L_clear hn hk hC hM g next, fun _ => L_tell hn hk hC hM g next, fun _ => L_event hn hk hC hM g next, fun _ => L_comes hn hk hC hM g next, fun _ => L_days hn hk hC hM g next, fun _ => L_undo hn hk hC hM g next, fun _ => L_origins hn hk hC hM g next, fun _ => L_voice hn hk hC hM g next, fun _ => L_law hn hk hC hM g next, fun _ => L_place hn hk hC hM g next, fun _ => L_stands hn hk hC hM g next, fun _ => L_falls hn hk hC hM g next, fun _ => L_alone hn hk hC hM g next, fun _ => L_empty hn hk hC hM g next, fun _ => L_hints hn hk hC hM g next, fun _ => L_hinder hn hk hC hM g next, fun _ => L_turns hn hk hC hM g next, fun _ => L_keepAt hn hk hC hM g next, fun _ => L_chance hn hk hC hM g next, fun _ => L_mark hn hk hC hM g next, fun _ => L_keep hn hk hC hM g next, fun _ => L_back hn hk hC hM g next, fun _ => L_count hn hk hC hM g next, fun _ => L_trace hC hM g next⟩
def A0 : Ab := ([], ([], 0), [], none, none, 0)
theorem C_start : RepC sg0 A0 := ⟨⟨rfl, fun k hk => absurd hk (Nat.not_lt_zero k)⟩, ⟨rfl, rfl, rfl, fun k hk => absurd hk (Nat.not_lt_zero k)⟩, ⟨rfl, fun k hk => absurd hk (Nat.not_lt_zero k)⟩, rfl, rfl, rfl⟩
theorem R_start : RepM sg0 A0 := ⟨⟨rfl, fun k hk => absurd hk (Nat.not_lt_zero k)⟩, ⟨rfl, rfl, fun k hk => absurd hk (Nat.not_lt_zero k)⟩, ⟨rfl, fun k hk => absurd hk (Nat.not_lt_zero k)⟩, rfl, rfl, rfl, 0, by omega, rfl⟩
theorem G_start : Good A0 := ⟨okR_nil.1, okR_nil.2, ⟨Nat.zero_le _, fun k hk => absurd hk (Nat.not_lt_zero k)⟩, fun u hu => (nomatch hu), fun u hu => (nomatch hu)⟩
theorem law_all {E : EV} {b n : Nat} {xs : Nat → Int32} (hn : n < 2 ^ 30) : K_law_18 E b n xs sg0 0 := law_loop hn n 0 sg0 A0 (by omega) (by omega) C_start R_start G_start
