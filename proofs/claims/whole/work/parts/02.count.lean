/-! counting devices by key; the greedy pairing and the counts -/
def pm_cnt (p : Nat → Bool) (k : Nat → Nat) (z : Nat) : Nat → Nat
  | 0 => 0
  | n + 1 => pm_cnt p k z n + (if p n = true ∧ k n = z then 1 else 0)
def pm_tot (p : Nat → Bool) : Nat → Nat
  | 0 => 0
  | n + 1 => pm_tot p n + (if p n = true then 1 else 0)
def pm_sum (f : Nat → Nat) : Nat → Nat
  | 0 => 0
  | n + 1 => pm_sum f n + f n
theorem pm_sum_add (f g : Nat → Nat) : ∀ B, pm_sum (fun z => f z + g z) B = pm_sum f B + pm_sum g B := by
  intro B
  induction B with
  | zero => rfl
  | succ B ih => simp only [pm_sum, ih]; omega
theorem pm_sum_0 : ∀ B, pm_sum (fun _ => 0) B = 0 := by
  intro B
  induction B with
  | zero => rfl
  | succ B ih => simp only [pm_sum, ih]
theorem pm_sum_ind (a : Nat) : ∀ B, pm_sum (fun z => if a = z then 1 else 0) B = if a < B then 1 else 0 := by
  intro B
  induction B with
  | zero => simp [pm_sum]
  | succ B ih =>
    simp only [pm_sum, ih]
    by_cases h1 : a < B
    · rw [if_pos h1, if_neg (by omega), if_pos (by omega)]
    · by_cases h2 : a = B
      · rw [if_neg h1, if_pos h2, if_pos (by omega)]
      · rw [if_neg h1, if_neg h2, if_neg (by omega)]
theorem pm_sum_cnt (p : Nat → Bool) (k : Nat → Nat) (B : Nat) : ∀ n, (∀ d, d < n → p d = true → k d < B) → pm_sum (fun z => pm_cnt p k z n) B = pm_tot p n := by
  intro n
  induction n with
  | zero => intro _; exact pm_sum_0 B
  | succ n ih =>
    intro h
    have e1 := ih (fun d hd => h d (by omega))
    have e2 : pm_sum (fun z => if p n = true ∧ k n = z then 1 else 0) B = (if p n = true then 1 else 0) := by
      cases hp : p n with
      | false => simp [pm_sum_0]
      | true =>
        have e3 := pm_sum_ind (k n) B
        rw [if_pos (h n (by omega) hp)] at e3
        simpa using e3
    show pm_sum (fun z => pm_cnt p k z n + (if p n = true ∧ k n = z then 1 else 0)) B = pm_tot p n + (if p n = true then 1 else 0)
    rw [pm_sum_add (fun z => pm_cnt p k z n) (fun z => if p n = true ∧ k n = z then 1 else 0), e1, e2]
theorem pm_sum_le {f g : Nat → Nat} : ∀ B, (∀ z, z < B → f z ≤ g z) → pm_sum f B ≤ pm_sum g B := by
  intro B
  induction B with
  | zero => intro _; exact Nat.le_refl _
  | succ B ih =>
    intro h
    have h1 := ih (fun z hz => h z (by omega))
    have h2 := h B (by omega)
    simp only [pm_sum]
    omega
theorem pm_sum_eq {f g : Nat → Nat} : ∀ B, (∀ z, z < B → f z ≤ g z) → pm_sum f B = pm_sum g B → ∀ z, z < B → f z = g z := by
  intro B
  induction B with
  | zero => intro _ _ z hz; omega
  | succ B ih =>
    intro h e z hz
    have h1 := pm_sum_le B (fun z hz => h z (by omega))
    have h2 := h B (by omega)
    simp only [pm_sum] at e
    rcases Nat.lt_or_ge z B with c | c
    · exact ih (fun z hz => h z (by omega)) (by omega) z c
    · have e2 : z = B := by omega
      rw [e2]
      omega
theorem pm_cnt_ex {p : Nat → Bool} {k : Nat → Nat} {z : Nat} : ∀ n, 0 < pm_cnt p k z n → ∃ d, d < n ∧ p d = true ∧ k d = z := by
  intro n
  induction n with
  | zero => intro h; exact absurd h (Nat.lt_irrefl 0)
  | succ n ih =>
    intro h
    by_cases c : p n = true ∧ k n = z
    · exact ⟨n, by omega, c⟩
    · simp only [pm_cnt, if_neg c] at h
      obtain ⟨d, h1, h2⟩ := ih h
      exact ⟨d, by omega, h2⟩
theorem pm_cnt_pos {p : Nat → Bool} {k : Nat → Nat} {z : Nat} : ∀ n d, d < n → p d = true → k d = z → 0 < pm_cnt p k z n := by
  intro n
  induction n with
  | zero => intro d h; omega
  | succ n ih =>
    intro d hd hp hk
    simp only [pm_cnt]
    rcases Nat.lt_or_ge d n with c | c
    · have := ih d c hp hk
      omega
    · have e : d = n := by omega
      rw [e] at hp hk
      rw [if_pos ⟨hp, hk⟩]
      omega
theorem pm_cnt_congr {p q : Nat → Bool} {k l : Nat → Nat} {z : Nat} : ∀ n, (∀ d, d < n → p d = q d ∧ k d = l d) → pm_cnt p k z n = pm_cnt q l z n := by
  intro n
  induction n with
  | zero => intro _; rfl
  | succ n ih =>
    intro h
    simp only [pm_cnt]
    rw [ih (fun d hd => h d (by omega)), (h n (by omega)).1, (h n (by omega)).2]
theorem pm_tot_congr {p q : Nat → Bool} : ∀ n, (∀ d, d < n → p d = q d) → pm_tot p n = pm_tot q n := by
  intro n
  induction n with
  | zero => intro _; rfl
  | succ n ih =>
    intro h
    simp only [pm_tot]
    rw [ih (fun d hd => h d (by omega)), h n (by omega)]
theorem pm_ref {p q : Nat → Bool} {kl kr : Nat → Nat} {B : Nat} (hl : ∀ d, d < 7 → p d = true → kl d < B) (hr : ∀ d, d < 7 → q d = true → kr d < B) :
    (pm_tot p 7 = pm_tot q 7 ∧ ∀ d, d < 7 → q d = true → pm_cnt p kl (kr d) 7 = pm_cnt q kr (kr d) 7) ↔ ∀ z, pm_cnt p kl z 7 = pm_cnt q kr z 7 := by
  constructor
  · rintro ⟨h1, h2⟩ z
    have key : ∀ z, z < B → pm_cnt q kr z 7 = pm_cnt p kl z 7 := by
      refine pm_sum_eq (f := fun z => pm_cnt q kr z 7) (g := fun z => pm_cnt p kl z 7) B ?_ ?_
      · intro z _
        show pm_cnt q kr z 7 ≤ pm_cnt p kl z 7
        rcases Nat.eq_zero_or_pos (pm_cnt q kr z 7) with c | c
        · omega
        · obtain ⟨d, h3, h4, h5⟩ := pm_cnt_ex 7 c
          have h6 := h2 d h3 h4
          rw [h5] at h6
          omega
      · rw [pm_sum_cnt q kr B 7 hr, pm_sum_cnt p kl B 7 hl, h1]
    rcases Nat.lt_or_ge z B with c | c
    · exact (key z c).symm
    · have a : ¬ 0 < pm_cnt p kl z 7 := fun hp => by
        obtain ⟨d, h3, h4, h5⟩ := pm_cnt_ex 7 hp
        have := hl d h3 h4
        omega
      have b : ¬ 0 < pm_cnt q kr z 7 := fun hp => by
        obtain ⟨d, h3, h4, h5⟩ := pm_cnt_ex 7 hp
        have := hr d h3 h4
        omega
      omega
  · intro h
    refine ⟨?_, fun d _ _ => h _⟩
    rw [← pm_sum_cnt p kl B 7 hl, ← pm_sum_cnt q kr B 7 hr]
    have e : (fun z => pm_cnt p kl z 7) = (fun z => pm_cnt q kr z 7) := funext h
    rw [e]
/-- taking one of the set away -/
theorem pm_rm {U V : Nat → Bool} {k : Nat → Nat} {e : Nat} (z : Nat) : ∀ n, e < n → U e = true → (∀ j, j < n → V j = (U j && !(j == e))) → pm_cnt V k z n + (if k e = z then 1 else 0) = pm_cnt U k z n := by
  intro n
  induction n with
  | zero => intro h; omega
  | succ n ih =>
    intro he hU hV
    simp only [pm_cnt]
    have hn := hV n (by omega)
    rcases Nat.lt_or_ge e n with c | c
    · have e1 := ih c hU (fun j hj => hV j (by omega))
      have e2 : V n = U n := by
        rw [hn]
        have : (n == e) = false := by
          rw [beq_eq_false_iff_ne]
          omega
        rw [this]
        simp
      rw [e2]
      omega
    · have e1 : e = n := by omega
      have e2 : V n = false := by
        rw [hn, e1]
        simp
      have e3 : pm_cnt V k z n = pm_cnt U k z n := pm_cnt_congr n (fun d hd => ⟨by
        rw [hV d (by omega)]
        have : (d == e) = false := by
          rw [beq_eq_false_iff_ne]
          omega
        rw [this]
        simp, rfl⟩)
      rw [e1] at hU
      rw [e3, e2, hU, e1]
      simp
/-! keys -/
theorem dv_dig {a g m n b h k l : Nat} (h2 : g < 6) (h3 : m < 6) (h4 : n < 6) (h6 : h < 6) (h7 : k < 6) (h8 : l < 6) (e : a * 216 + g * 36 + m * 6 + n = b * 216 + h * 36 + k * 6 + l) : a = b ∧ g = h ∧ m = k ∧ n = l := by omega
def dv_mn (x y : Nat) : Nat := if x ≤ y then x else y
def dv_mx (x y : Nat) : Nat := if x ≤ y then y else x
theorem dv_mm {x y u v : Nat} : (dv_mn x y = dv_mn u v ∧ dv_mx x y = dv_mx u v) ↔ ((x = u ∧ y = v) ∨ (x = v ∧ y = u)) := by
  by_cases c : x ≤ y <;> by_cases d : u ≤ v <;> simp only [dv_mn, dv_mx, c, d, reduceIte] <;> omega
theorem dv_mlt {x y : Nat} (hx : x < 6) (hy : y < 6) : dv_mn x y < 6 ∧ dv_mx x y < 6 := by
  by_cases c : x ≤ y <;> simp only [dv_mn, dv_mx, c, reduceIte] <;> omega
def dv_K (T G X Y t : Nat → Nat) (l : Nat) : Nat := T l * 216 + (if T l = 2 then 0 else t (G l)) * 36 + dv_mn (t (X l)) (t (Y l)) * 6 + dv_mx (t (X l)) (t (Y l))
def dv_ok (T G X Y : Nat → Nat) : Prop := ∀ j, T j < 3 ∧ G j < 6 ∧ X j < 6 ∧ Y j < 6
def dv_S (T G X Y t : Nat → Nat) (l r : Nat) : Prop := T l = T r ∧ (T l = 2 ∨ t (G l) = G r) ∧ ((t (X l) = X r ∧ t (Y l) = Y r) ∨ (t (X l) = Y r ∧ t (Y l) = X r))
theorem dv_gl {T G X Y t : Nat → Nat} (ok : dv_ok T G X Y) (ht : ∀ i, i < 6 → t i < 6) (l : Nat) : (if T l = 2 then 0 else t (G l)) < 6 := by
  by_cases c : T l = 2
  · rw [if_pos c]; omega
  · rw [if_neg c]; exact ht _ (ok l).2.1
theorem dv_K_lt {T G X Y t : Nat → Nat} (ok : dv_ok T G X Y) (ht : ∀ i, i < 6 → t i < 6) (l : Nat) : dv_K T G X Y t l < 648 := by
  have h1 := dv_gl ok ht l
  have h2 := dv_mlt (ht _ (ok l).2.2.1) (ht _ (ok l).2.2.2)
  have h3 := (ok l).1
  unfold dv_K
  generalize (if T l = 2 then 0 else t (G l)) = g at h1
  omega
theorem dv_K_iff {T G X Y t : Nat → Nat} (ok : dv_ok T G X Y) (ht : ∀ i, i < 6 → t i < 6) (l r : Nat) : dv_K T G X Y t l = dv_K T G X Y (fun i => i) r ↔ dv_S T G X Y t l r := by
  have ht' : ∀ i, i < 6 → (fun i : Nat => i) i < 6 := fun i h => h
  have h1 := dv_gl ok ht l
  have h2 := dv_mlt (ht _ (ok l).2.2.1) (ht _ (ok l).2.2.2)
  have h3 := dv_gl ok ht' r
  have h4 := dv_mlt (ok r).2.2.1 (ok r).2.2.2
  constructor
  · intro e
    obtain ⟨e1, e2, e3, e4⟩ := dv_dig h1 h2.1 h2.2 h3 h4.1 h4.2 e
    refine ⟨e1, ?_, dv_mm.mp ⟨e3, e4⟩⟩
    by_cases c : T l = 2
    · exact Or.inl c
    · rw [if_neg c, if_neg (by omega)] at e2
      exact Or.inr e2
  · rintro ⟨e1, e2, e3⟩
    obtain ⟨e4, e5⟩ := dv_mm.mpr e3
    have e6 : (if T l = 2 then 0 else t (G l)) = (if T r = 2 then 0 else G r) := by
      by_cases c : T l = 2
      · rw [if_pos c, if_pos (by omega)]
      · rw [if_neg c, if_neg (by omega)]
        exact e2.resolve_left c
    unfold dv_K
    rw [e1] at e6 ⊢
    rw [e6, e4, e5]
