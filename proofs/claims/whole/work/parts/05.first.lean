/-! which assignments fit: their number, their images, the first of them -/
def pf_im (F : Nat → Bool) (i : Nat) : Nat → Nat
  | 0 => 0
  | n + 1 => if F n = true then pf_im F i n ||| 2 ^ nt_P n i else pf_im F i n
theorem pf_im_lt {F : Nat → Bool} {i : Nat} (hi : i < 6) : ∀ n, n ≤ 720 → pf_im F i n < 128 := by
  intro n
  induction n with
  | zero => intro _; exact (by decide : 0 < 128)
  | succ n ih =>
    intro h
    have h1 := ih (by omega)
    have h2 := nt_lt n (by omega) i hi
    simp only [pf_im]
    by_cases c : F n = true
    · rw [if_pos c]; exact (bs_set _ h1 _ (by omega)).2
    · rw [if_neg c]; exact h1
theorem pf_im_T {F : Nat → Bool} {i j : Nat} (hi : i < 6) (hj : j < 7) : ∀ n, n ≤ 720 → ((pf_im F i n).testBit j = true ↔ ∃ c, c < n ∧ F c = true ∧ nt_P c i = j) := by
  intro n
  induction n with
  | zero =>
    intro _
    constructor
    · intro h
      simp [pf_im] at h
    · rintro ⟨c, hc, _⟩
      omega
  | succ n ih =>
    intro h
    have h1 := ih (by omega)
    have h2 := nt_lt n (by omega) i hi
    have h3 := pf_im_lt (F := F) hi n (by omega)
    simp only [pf_im]
    by_cases c : F n = true
    · rw [if_pos c, bs_setT _ h3 _ (by omega) _ hj, Bool.or_eq_true, h1, beq_iff_eq]
      constructor
      · rintro (⟨e, h4, h5, h6⟩ | h4)
        · exact ⟨e, by omega, h5, h6⟩
        · exact ⟨n, by omega, c, h4.symm⟩
      · rintro ⟨e, h4, h5, h6⟩
        rcases Nat.lt_or_ge e n with d | d
        · exact Or.inl ⟨e, d, h5, h6⟩
        · have e2 : e = n := by omega
          rw [e2] at h6
          exact Or.inr h6.symm
    · rw [if_neg c, h1]
      constructor
      · rintro ⟨e, h4, h5⟩
        exact ⟨e, by omega, h5⟩
      · rintro ⟨e, h4, h5, h6⟩
        rcases Nat.lt_or_ge e n with d | d
        · exact ⟨e, d, h5, h6⟩
        · have e2 : e = n := by omega
          rw [e2] at h5
          exact absurd h5 c
theorem pm_tot_le (F : Nat → Bool) : ∀ n, pm_tot F n ≤ n := by
  intro n
  induction n with
  | zero => exact Nat.le_refl _
  | succ n ih =>
    simp only [pm_tot]
    by_cases c : F n = true
    · rw [if_pos c]; omega
    · rw [if_neg c]; omega
theorem pm_tot_0 {F : Nat → Bool} : ∀ n, pm_tot F n = 0 ↔ ∀ c, c < n → F c = false := by
  intro n
  induction n with
  | zero => exact ⟨fun _ c h => absurd h (Nat.not_lt_zero c), fun _ => rfl⟩
  | succ n ih =>
    simp only [pm_tot]
    cases hn : F n with
    | false =>
      rw [if_neg (by decide), Nat.add_zero, ih]
      constructor
      · intro h c hc
        rcases Nat.lt_or_ge c n with d | d
        · exact h c d
        · have e2 : c = n := by omega
          rw [e2]
          exact hn
      · exact fun h c hc => h c (by omega)
    | true =>
      rw [if_pos rfl]
      constructor
      · intro h
        omega
      · intro h
        have h2 := h n (by omega)
        rw [hn] at h2
        exact absurd h2 (by decide)
/-- c is the first that fits, below n -/
def pf_fs (F : Nat → Bool) (c n : Nat) : Prop := c < n ∧ F c = true ∧ ∀ d, d < c → F d = false
theorem pf_uniq {F : Nat → Bool} {c d n m : Nat} (h : pf_fs F c n) (g : pf_fs F d m) : c = d := by
  rcases Nat.lt_trichotomy c d with z | z | z
  · have h2 := g.2.2 c z
    rw [h.2.1] at h2
    exact absurd h2 (by decide)
  · exact z
  · have h2 := h.2.2 d z
    rw [g.2.1] at h2
    exact absurd h2 (by decide)
theorem pf_some {F : Nat → Bool} {c n : Nat} (h : pf_fs F c n) : 0 < pm_tot F n := by
  rcases Nat.eq_zero_or_pos (pm_tot F n) with z | z
  · have h2 := (pm_tot_0 n).mp z c h.1
    rw [h.2.1] at h2
    exact absurd h2 (by decide)
  · exact z
