/-! ===== what is held stays in its bounds ===== -/
theorem okTl_add {n : Nat} {T : Tl} {s a b : Nat} (h : okTl n T) (he : okE n (s, T.2, a, b)) (hr : T.1.length < 40 ∧ (s = 1 → mc T.1 < 6)) : okTl n (T.1 ++ [(s, T.2, a, b)], T.2) := by
  obtain ⟨h1, h2, h3, h4, h5, h6⟩ := h
  have len : (T.1 ++ [(s, T.2, a, b)]).length = T.1.length + 1 := by rw [List.length_append]; rfl
  refine ⟨?_, ?_, h3, fun j hj => ?_, fun i j hij hj => ?_, fun j hj => ?_⟩
  · show (T.1 ++ [_]).length ≤ 40; omega
  · show mc (T.1 ++ [_]) ≤ 6
    rw [mc_app, mc_one]
    show mc T.1 + (if s = 1 then 1 else 0) ≤ 6
    split
    · rename_i z; have := hr.2 z; omega
    · omega
  · have hj : j < T.1.length + 1 := by rw [← len]; exact hj
    show okE n (ge (T.1 ++ [_]) j)
    rcases (show j < T.1.length ∨ j = T.1.length by omega) with z | z
    · rw [ge_app z]; exact h4 j z
    · rw [z, ge_last]; exact he
  · have hj : j < T.1.length + 1 := by rw [← len]; exact hj
    show (ge (T.1 ++ [_]) i).2.1 ≤ (ge (T.1 ++ [_]) j).2.1
    rcases (show j < T.1.length ∨ j = T.1.length by omega) with z | z
    · rw [ge_app z, ge_app (by omega)]; exact h5 i j hij z
    · rw [z, ge_last]
      show _ ≤ T.2
      rcases (show i < T.1.length ∨ i = T.1.length by omega) with y | y
      · rw [ge_app y]; exact h6 i y
      · rw [y, ge_last]; exact Nat.le_refl _
  · have hj : j < T.1.length + 1 := by rw [← len]; exact hj
    show (ge (T.1 ++ [_]) j).2.1 ≤ T.2
    rcases (show j < T.1.length ∨ j = T.1.length by omega) with y | y
    · rw [ge_app y]; exact h6 j y
    · rw [y, ge_last]; exact Nat.le_refl _
theorem G_T {A : Ab} {T : Tl} (g : Good A) (h : okTl A.1.length T) : Good (withT A T) := ⟨g.1, h, g.2.2.1, g.2.2.2.1, g.2.2.2.2⟩
theorem G_comes {A : Ab} {s a b : Int32} (g : Good A) : Good (S_comes A s a b).2 := by
  rw [S_comes]
  split
  · rename_i ok
    split
    · exact g
    · rename_i nf
      obtain ⟨o1, o3, o4, o5⟩ := ok
      obtain ⟨s', hs, rfl, es⟩ := ge0 (x := s) (by omega)
      obtain ⟨a', ha, rfl, ea⟩ := ge0 (x := a) o3.1
      obtain ⟨b', hb, rfl, eb⟩ := ge0 (x := b) (by
        rcases Nat.lt_or_ge 1 s' with z | z
        · exact (o5 (by omega)).1
        · exact (o4 (by omega)).1.1)
      have h1 := g.2.1.1
      have h2 := g.2.1.2.1
      rw [cl hs, cl ha, cl hb]
      refine G_T g (okTl_add g.2.1 ⟨by show s' ≤ 4; omega, by show a' < _; omega, fun z => ?_, fun z => ?_⟩ ⟨by omega, fun z => ?_⟩)
      · have z : s' ≤ 1 := z
        have := o4 (by omega)
        exact ⟨by show b' < _; omega, by show b' ≠ a'; omega⟩
      · have z : 2 ≤ s' := z
        have := o5 (by omega)
        show b' < 4; omega
      · rcases Nat.lt_or_ge (mc A.2.1.1) 6 with y | y
        · exact y
        · exact absurd (Or.inr ⟨by omega, by omega⟩) nf
  · exact g
theorem G_days {A : Ab} {n : Int32} (g : Good A) : Good (S_days A n).2 := by
  rw [S_days]
  split
  · split
    · rename_i h
      obtain ⟨h1, h2, h3, h4, h5, h6⟩ := g.2.1
      exact G_T g ⟨h1, h2, h, h4, h5, fun k hk => Nat.le_trans (h6 k hk) (Nat.le_add_right _ _)⟩
    · exact g
  · exact g
theorem G_undo {A : Ab} (g : Good A) : Good (S_undo A).2 := by
  rw [S_undo]
  split
  · exact g
  · obtain ⟨h1, h2, h3, h4, h5, h6⟩ := g.2.1
    have len : (A.2.1.1.take (A.2.1.1.length - 1)).length = A.2.1.1.length - 1 := by rw [List.length_take]; omega
    refine G_T g ⟨?_, Nat.le_trans mc_take h2, h3, fun k hk => ?_, fun i j hij hj => ?_, fun k hk => ?_⟩
    · show (A.2.1.1.take _).length ≤ 40; omega
    · have hk : k < A.2.1.1.length - 1 := by rw [← len]; exact hk
      show okE _ (ge (A.2.1.1.take _) k)
      rw [ge_take hk]; exact h4 k (by omega)
    · have hj : j < A.2.1.1.length - 1 := by rw [← len]; exact hj
      show (ge (A.2.1.1.take _) i).2.1 ≤ (ge (A.2.1.1.take _) j).2.1
      rw [ge_take hj, ge_take (by omega)]; exact h5 i j hij (by omega)
    · have hk : k < A.2.1.1.length - 1 := by rw [← len]; exact hk
      show (ge (A.2.1.1.take _) k).2.1 ≤ _
      rw [ge_take hk]; exact h6 k (by omega)
theorem G_keep {A : Ab} {i : Int32} (g : Good A) : Good (S_keep A i).2 := by
  rw [S_keep]
  split
  · exact ⟨g.1, g.2.1, g.2.2.1, fun u hu => by cases hu; exact g.2.1, g.2.2.2.2⟩
  · split
    · exact ⟨g.1, g.2.1, g.2.2.1, g.2.2.2.1, fun u hu => by cases hu; exact g.2.1⟩
    · exact g
theorem G_backI {A : Ab} {o : Option Tl} (g : Good A) (h : ∀ u, o = some u → okTl A.1.length u) : Good (S_backI A o).2 := by
  cases o with
  | none => exact g
  | some u => exact G_T g (h u rfl)
theorem G_back {A : Ab} {i : Int32} (g : Good A) : Good (S_back A i).2 := by
  rw [S_back]
  split
  · exact G_backI g g.2.2.2.1
  · split
    · exact G_backI g g.2.2.2.2
    · exact g
theorem G_mark {A : Ab} {k p t : Int32} (g : Good A) : Good (S_mark A k p t).2 := by
  rw [S_mark]
  split
  · exact ⟨g.1, g.2.1, g.2.2.1, g.2.2.2.1, g.2.2.2.2⟩
  · exact g
theorem G_clear {A : Ab} (g : Good A) : Good (S_clear A).2 := ⟨g.1, g.2.1, ⟨Nat.zero_le _, fun k hk => absurd hk (Nat.not_lt_zero k)⟩, g.2.2.2.1, g.2.2.2.2⟩
theorem okX_bts {v : Int64} : ∀ (k : Nat) (X : List Nat), okX X → X.length + k ≤ 400 → okX (X ++ bts v k)
  | 0, X, h, _ => by rw [bts, List.append_nil]; exact h
  | k + 1, X, h, hl => by
    rw [bts, show X ++ bt v k :: bts v k = (X ++ [bt v k]) ++ bts v k by rw [List.append_assoc]; rfl]
    have len : (X ++ [bt v k]).length = X.length + 1 := by rw [List.length_append]; rfl
    refine okX_bts k _ ⟨by omega, fun j hj => ?_⟩ (by omega)
    rw [len] at hj
    rcases (show j < X.length ∨ j = X.length by omega) with z | z
    · rw [gd_app z]; exact h.2 j z
    · rw [z, gd_last]; exact (bt_eq v k).2
theorem G_type {A : Ab} {v : Int64} {n : Int32} (g : Good A) : Good (S_type A v n).2 := by
  rw [S_type]
  split
  · split
    · rename_i h
      exact ⟨g.1, g.2.1, okX_bts _ _ g.2.2.1 h, g.2.2.2.1, g.2.2.2.2⟩
    · exact g
  · exact g
theorem rdT_ok {X : List Nat} : ∀ (f p n : Nat) (P : List Nat) (L : List Ev) (n' : Nat) (P' : List Nat) (L' : List Ev), p ≤ X.length → okR P L → rdT X f p P L n = .inr (n', P', L') → okR P' L'
  | 0, _, _, _, _, _, _, _, _, _, e => nomatch e
  | f + 1, p, n, P, L, n', P', L', hp, h, e => by
    rw [rdT] at e
    split at e
    · cases e; exact h
    · cases hi : item X p P L with
      | inl s => rw [hi] at e; exact nomatch e
      | inr r =>
        obtain ⟨p2, P2, L2⟩ := r
        rw [hi] at e
        obtain ⟨-, o2, o3⟩ := item_ok hp h hi
        exact rdT_ok f p2 (n + 1) P2 L2 n' P' L' o2 o3 e
theorem G_tell {A : Ab} (g : Good A) : Good (S_tell A).2 := by
  rw [S_tell]
  cases e : rdT A.2.2.1 (A.2.2.1.length + 1) 0 [] [] 0 with
  | inl s => exact g
  | inr r =>
    obtain ⟨n, P, L⟩ := r
    obtain ⟨h1, h2⟩ := rdT_ok _ _ _ _ _ _ _ _ (Nat.zero_le _) okR_nil e
    exact ⟨h1, h2, ⟨Nat.zero_le _, fun k hk => absurd hk (Nat.not_lt_zero k)⟩, fun u hu => (nomatch hu), fun u hu => (nomatch hu)⟩
