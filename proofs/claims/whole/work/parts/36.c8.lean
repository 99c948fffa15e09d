/-! ===== letters that give themselves away ===== -/
/-- the story without maybe ones, as far as its first k events *)-/
def ptale (A : Ab) (t k : Nat) : SS := runS A.1.length t (-9) 0 A.2.1.1 k 0 (init A.1)
theorem ptale_s {A : Ab} {t k : Nat} : ptale A t (k + 1) = evS A.1.length t (-9) (0 &&& mb A.2.1.1 k) (ge A.2.1.1 k) (ptale A t k) := by
  rw [ptale, runS_add k 1 0, Nat.zero_add]; rfl
abbrev carr (A : Ab) (t k : Nat) : Prop := ¬ (ptale A t k).2.1 (ge A.2.1.1 k).2.2.1 = 0
def carC (A : Ab) (t : Nat) : Nat → Int32
  | 0 => 0
  | k + 1 => if (ge A.2.1.1 k).1 = 1 ∧ carr A t k then carC A t k ||| mb A.2.1.1 k else carC A t k
def empM (A : Ab) : Nat → Int32
  | 0 => 0
  | k + 1 => if (ge A.2.1.1 k).1 = 1 ∧ (¬ carr A 0 k ∧ ¬ carr A 1 k ∧ ¬ carr A 2 k ∧ ¬ carr A 3 k) then empM A k ||| one (mc (A.2.1.1.take k)) else empM A k
def S_empty (A : Ab) : Int32 := empM A A.2.1.1.length
theorem emp_bits : ∀ m, m < 6 → ∀ F, F < 2 ^ m → ((nI (F ||| 2 ^ m) ^^^ (-1)) &&& (nI (2 ^ (m + 1)) - 1) = (nI F ^^^ (-1)) &&& (nI (2 ^ m) - 1)) ∧ ((nI F ^^^ (-1)) &&& (nI (2 ^ (m + 1)) - 1) = ((nI F ^^^ (-1)) &&& (nI (2 ^ m) - 1)) ||| one m) := by decide +kernel
theorem or4 (a b c d y : Nat) (p q r s : Bool) : (((cond p (a ||| y) a ||| cond q (b ||| y) b) ||| cond r (c ||| y) c) ||| cond s (d ||| y) d) = cond (p || q || r || s) ((((a ||| b) ||| c) ||| d) ||| y) (((a ||| b) ||| c) ||| d) := by
  apply Nat.eq_of_testBit_eq
  intro i
  cases p <;> cases q <;> cases r <;> cases s <;> simp only [cond_true, cond_false, Bool.or_true, Bool.true_or, Bool.or_false, Nat.testBit_or] <;> (generalize a.testBit i = a1; generalize b.testBit i = b1; generalize c.testBit i = c1; generalize d.testBit i = d1; generalize y.testBit i = y1; revert a1 b1 c1 d1 y1; decide)
theorem mb_one {l : List Ev} {k : Nat} (h : (ge l k).1 = 1) : mb l k = one (mc (l.take k)) := by rw [mb, if_pos h]; rfl
theorem emp_inv {A : Ab} (g : Good A) : ∀ k, k ≤ A.2.1.1.length → ∃ c : Nat → Nat, (∀ t, t < 4 → carC A t k = nI (c t) ∧ c t < 2 ^ mc (A.2.1.1.take k)) ∧ (nI (((c 0 ||| c 1) ||| c 2) ||| c 3) ^^^ (-1)) &&& (nI (2 ^ mc (A.2.1.1.take k)) - 1) = empM A k
  | 0, _ => ⟨fun _ => 0, fun t _ => ⟨rfl, by rw [List.take_zero]; exact (by decide : (0 : Nat) < 1)⟩, by rw [List.take_zero]; exact (by decide : (nI 0 ^^^ (-1)) &&& (nI 1 - 1) = 0)⟩
  | k + 1, hk => by
    obtain ⟨c, hc, he⟩ := emp_inv g k (by omega)
    have hm := mc_step (l := A.2.1.1) (k := k) (by omega)
    have hM : mc (A.2.1.1.take (k + 1)) ≤ 6 := Nat.le_trans mc_take g.2.1.2.1
    by_cases h1 : (ge A.2.1.1 k).1 = 1
    · rw [if_pos h1] at hm
      have hlt : mc (A.2.1.1.take k) < 6 := by omega
      have hF : (((c 0 ||| c 1) ||| c 2) ||| c 3) < 2 ^ mc (A.2.1.1.take k) := Nat.or_lt_two_pow (Nat.or_lt_two_pow (Nat.or_lt_two_pow (hc 0 (by omega)).2 (hc 1 (by omega)).2) (hc 2 (by omega)).2) (hc 3 (by omega)).2
      have hp : 2 ^ mc (A.2.1.1.take k) < 2 ^ (mc (A.2.1.1.take k) + 1) := Nat.pow_lt_pow_right (by omega) (by omega)
      obtain ⟨b1, b2⟩ := emp_bits _ hlt _ hF
      refine ⟨fun t => cond (decide (carr A t k)) (c t ||| 2 ^ mc (A.2.1.1.take k)) (c t), fun t ht => ?_, ?_⟩
      · rw [carC, hm]
        show _ = nI (cond (decide (carr A t k)) (c t ||| 2 ^ mc (A.2.1.1.take k)) (c t)) ∧ cond (decide (carr A t k)) (c t ||| 2 ^ mc (A.2.1.1.take k)) (c t) < _
        by_cases h2 : carr A t k
        · rw [if_pos ⟨h1, h2⟩, decide_eq_true h2, cond_true, (hc t ht).1, mb_one h1, one_nI _ (by omega), or_nI]
          exact ⟨rfl, Nat.or_lt_two_pow (Nat.lt_trans (hc t ht).2 hp) hp⟩
        · rw [if_neg (fun z => h2 z.2), decide_eq_false h2, cond_false]
          exact ⟨(hc t ht).1, Nat.lt_trans (hc t ht).2 hp⟩
      · rw [or4, hm, empM]
        by_cases h2 : ¬ carr A 0 k ∧ ¬ carr A 1 k ∧ ¬ carr A 2 k ∧ ¬ carr A 3 k
        · rw [if_pos ⟨h1, h2⟩, decide_eq_false h2.1, decide_eq_false h2.2.1, decide_eq_false h2.2.2.1, decide_eq_false h2.2.2.2]
          show (nI _ ^^^ (-1)) &&& _ = _
          rw [← he]
          exact b2
        · rw [if_neg (fun z => h2 z.2)]
          have : (decide (carr A 0 k) || decide (carr A 1 k) || decide (carr A 2 k) || decide (carr A 3 k)) = true := by
            by_cases y0 : carr A 0 k
            · rw [decide_eq_true y0]; rfl
            · by_cases y1 : carr A 1 k
              · rw [decide_eq_true y1, Bool.or_true]; rfl
              · by_cases y2 : carr A 2 k
                · rw [decide_eq_true y2, Bool.or_true]; rfl
                · by_cases y3 : carr A 3 k
                  · rw [decide_eq_true y3, Bool.or_true]
                  · exact absurd ⟨y0, y1, y2, y3⟩ h2
          rw [this, cond_true, ← he]
          exact b1
    · rw [if_neg h1, Nat.add_zero] at hm
      refine ⟨c, fun t ht => ?_, ?_⟩
      · rw [carC, if_neg (fun z => h1 z.1), hm]; exact hc t ht
      · rw [hm, empM, if_neg (fun z => h1 z.1)]; exact he
theorem C_carry {E : EV} {Q : Sg → Int32 → Prop} {σ : Sg} {A : Ab} {t : Nat} (h : RepC σ A) (g : Good A) (ht : t < 4) (hq : ∀ τ, Fr 36 39 σ τ → Q τ (carC A t A.2.1.1.length)) : MetI E mi_X5_maybesThatCarry [.ref 0, .int (nI t)] σ Q := by
  have hP := g.1.1
  have hL := g.2.1.1
  have go : ∀ (j k : Nat) (τ : Sg) (S : SS), k + j = A.2.1.1.length → Fr 36 39 σ τ → StC τ 36 A.1.length t (-9) S → Al A.1.length S (ptale A t k) → Zn A.1.length S → K_X5_maybesThatCarry_16 E Q τ (nI t) (carC A t k) (nI k) := by
    intro j
    induction j with
    | zero =>
      intro k τ S hk f hS hA hz
      obtain rfl : k = A.2.1.1.length := by omega
      have hE : EvC τ 5 A.2.1 := h.2.1.fr f (by omega)
      exact B_X5_maybesThatCarry_16 ⟨fun _ => hq τ f, fun q => absurd (by rw [hE.gi5.1]; exact nI_le (Nat.le_refl _) (by omega)) q⟩
    | succ j ih =>
      intro k τ S hk f hS hA hz
      have hE : EvC τ 5 A.2.1 := h.2.1.fr f (by omega)
      obtain ⟨o1, o2, o3, o4⟩ := ev_ge g.2.1 (k := k) (by omega)
      obtain ⟨g1, -, g3, -, g5⟩ := hE.2.2.2 k (by omega)
      have g1 : gm τ 6 k = nI (ge A.2.1.1 k).1 := g1
      have g3 : gm τ 8 k = nI (ge A.2.1.1 k).2.2.1 := g3
      have g5 : gm τ 10 k = mb A.2.1.1 k := g5
      have e38 : gm τ 38 = S.2.1 := hS.2.2.1
      have play : ∀ v, v = carC A t (k + 1) → MetV E mi_X3_play [.ref 36, .ref 5, .int (nI k), .int (nI k + 1), .int 0] τ (fun υ => K_X5_maybesThatCarry_16 E Q υ (nI t) v (nI k + 1)) := by
        intro v hv
        rw [nI_1, hv]
        refine C_play_36 hP ht g.2.1 (by omega) (by omega) hS hE hz (fun υ f2 h2 => ?_)
        rw [show k + 1 - k = 1 by omega] at h2
        refine ih (k + 1) υ _ (by omega) (f.tr f2) h2 ?_ (hz.ev ⟨o1, o2, o3, o4⟩)
        rw [ptale_s]
        exact evS_al hA hP ⟨o1, o2, o3, o4⟩
      refine B_X5_maybesThatCarry_16 ⟨fun q => absurd q (by rw [hE.gi5.1]; exact nI_ge (by omega) (by omega)), fun _ => ?_⟩
      rw [cl (n := k) (by omega), g1, g3, g5]
      refine ⟨vpn (by omega) (by omega), fun q => play _ ?_, fun q => ⟨vpn (by omega) (by omega), fun q2 => play _ ?_, fun q2 => play _ ?_⟩⟩
      · rw [carC, if_neg (fun z => q (by rw [z.1]; rfl))]
      all_goals have q : (ge A.2.1.1 k).1 = 1 := inj_nI (by omega) (by omega) q
      all_goals rw [cl (by omega), e38, hA.2.1 _ (by omega)] at q2
      · rw [carC, if_neg (fun z => z.2 q2)]
      · rw [carC, if_pos ⟨q, q2⟩]
  refine M_X5_maybesThatCarry (C_begin_36 hP h.1 (fun τ S f hS hA => ?_))
  exact go A.2.1.1.length 0 τ S (by omega) f hS hA (Zn_al hA Zn_init)
theorem C_empty {E : EV} {Q : Sg → Int32 → Prop} {σ : Sg} {A : Ab} (h : RepC σ A) (g : Good A) (hq : ∀ τ, Fr 36 39 σ τ → Q τ (S_empty A)) : MetI E mi_X5_empty [.ref 0] σ Q := by
  have hM := g.2.1.2.1
  obtain ⟨c, hc, he⟩ := emp_inv g A.2.1.1.length (Nat.le_refl _)
  rw [List.take_length] at he hc
  have step : ∀ (t : Nat) (τ : Sg) (v w : Int32), t < 4 → Fr 36 39 σ τ → w = v ||| nI (c t) → (∀ υ, Fr 36 39 σ υ → K_X5_empty_4 E Q υ w (nI (t + 1))) → K_X5_empty_4 E Q τ v (nI t) := by
    intro t τ v w ht f hw hn
    refine B_X5_empty_4 ⟨fun q => absurd q (nI_ge (a := t) (b := 4) (by omega) (by omega)), fun _ => C_carry (h.fr f (by omega)) g ht (fun υ f2 => ?_)⟩
    rw [(hc t ht).1, ← hw, nI_1]
    exact hn υ (f.tr f2)
  refine M_X5_empty (step 0 σ 0 (nI (c 0)) (by omega) Fr.rf (by rw [Int32.zero_or]) (fun τ1 f1 => step 1 τ1 _ (nI (c 0 ||| c 1)) (by omega) f1 (or_nI _ _).symm (fun τ2 f2 => step 2 τ2 _ (nI ((c 0 ||| c 1) ||| c 2)) (by omega) f2 (or_nI _ _).symm (fun τ3 f3 => step 3 τ3 _ (nI (((c 0 ||| c 1) ||| c 2) ||| c 3)) (by omega) f3 (or_nI _ _).symm (fun τ4 f4 => ?_)))))
  refine B_X5_empty_4 ⟨fun _ => ?_, fun q => absurd (by decide) q⟩
  rw [show gi τ4 506 = nI (mc A.2.1.1) from (h.2.1.fr f4 (by omega)).2.1, shl_1 _ (by omega), he]
  exact hq τ4 f4
