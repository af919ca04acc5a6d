/-! the relation, and what add, remove and name do to it -/
def rl_C (nm ty ga xs ys pr th nn : Nat → Int32) (T G X Y M : Nat → Nat) : Prop := dv_A ty ga xs ys T G X Y ∧ (∀ j, j < 12 → nn j = nm j + 1) ∧ (∀ c, c < 2 → pr c = nI (M c) ∧ M c < 128 ∧ ∀ d, d < 7 → (M c).testBit d = th_H th (7 * c + d))
def i_Rel (k : Nat) (u : SX) (v : SY) : Prop := ∃ (fd : Int32) (nm ty ga xs ys pr tr fm im th nn to : Nat → Int32) (T G X Y M : Nat → Nat), rl_C nm ty ga xs ys pr th nn T G X Y M ∧ u = (fd, nm, ty, ga, xs, ys, pr, tr, fm, im) ∧ v = (th, ty, ga, xs, ys, nn, to)
section RELA
variable {fd : Int32} {nm ty ga xs ys pr tr fm im th nn to : Nat → Int32} {T G X Y M : Nat → Nat}
theorem rl_mk {k : Nat} (h : rl_C nm ty ga xs ys pr th nn T G X Y M) : i_Rel k (fd, nm, ty, ga, xs, ys, pr, tr, fm, im) (th, ty, ga, xs, ys, nn, to) :=
  ⟨fd, nm, ty, ga, xs, ys, pr, tr, fm, im, th, nn, to, T, G, X, Y, M, h, rfl, rfl⟩
theorem rl_u {a : Nat → Int32} {A : Nat → Nat} {s v : Nat} (h : ∀ j, a j = nI (A j)) (j : Nat) : upd a s (nI v) j = nI (if j = s then v else A j) := by
  by_cases e : j = s
  · rw [if_pos e, e, pk_us]
  · rw [if_neg e, pk_un e]
    exact h j
theorem rl_b {A : Nat → Nat} {s v B : Nat} (hv : v < B) (h : ∀ j, A j < B) (j : Nat) : (if j = s then v else A j) < B := by
  by_cases e : j = s
  · rw [if_pos e]
    exact hv
  · rw [if_neg e]
    exact h j
theorem rl_add {c d tp g x y : Nat} (C : rl_C nm ty ga xs ys pr th nn T G X Y M) (hc : c < 2) (hd : d < 7) (h1 : tp < 3) (h2 : g < 6) (h3 : x < 6) (h4 : y < 6) :
    rl_C nm (upd ty (7 * c + d) (nI tp)) (upd ga (7 * c + d) (nI g)) (upd xs (7 * c + d) (nI x)) (upd ys (7 * c + d) (nI y)) (upd pr c (nI (M c ||| 2 ^ d))) (upd th (7 * c + d) 1) nn
      (fun j => if j = 7 * c + d then tp else T j) (fun j => if j = 7 * c + d then g else G j) (fun j => if j = 7 * c + d then x else X j) (fun j => if j = 7 * c + d then y else Y j) (fun e => if e = c then M c ||| 2 ^ d else M e) := by
  obtain ⟨A, hN, hM⟩ := C
  refine ⟨⟨fun j => ⟨rl_u (fun j => (A.1 j).1) j, rl_u (fun j => (A.1 j).2.1) j, rl_u (fun j => (A.1 j).2.2.1) j, rl_u (fun j => (A.1 j).2.2.2) j⟩, fun j => ⟨rl_b h1 (fun j => (A.2 j).1) j, rl_b h2 (fun j => (A.2 j).2.1) j, rl_b h3 (fun j => (A.2 j).2.2.1) j, rl_b h4 (fun j => (A.2 j).2.2.2) j⟩⟩, hN, fun e he => ?_⟩
  obtain ⟨m1, m2, m3⟩ := hM c hc
  by_cases z : e = c
  · rw [z]
    show upd pr c (nI (M c ||| 2 ^ d)) c = nI (if c = c then M c ||| 2 ^ d else M c) ∧ (if c = c then M c ||| 2 ^ d else M c) < 128 ∧ ∀ j, j < 7 → (if c = c then M c ||| 2 ^ d else M c).testBit j = _
    rw [if_pos rfl, pk_us]
    refine ⟨rfl, (bs_set _ m2 d hd).2, fun j hj => ?_⟩
    rw [bs_setT _ m2 d hd j hj, sp_H1, m3 j hj]
    by_cases w : j = d
    · rw [w]
      simp
    · have q1 : (j == d) = false := by rw [beq_eq_false_iff_ne]; exact w
      have q2 : (7 * c + j == 7 * c + d) = false := by rw [beq_eq_false_iff_ne]; omega
      rw [q1, q2]
  · obtain ⟨n1, n2, n3⟩ := hM e he
    show upd pr c (nI (M c ||| 2 ^ d)) e = nI (if e = c then M c ||| 2 ^ d else M e) ∧ (if e = c then M c ||| 2 ^ d else M e) < 128 ∧ ∀ j, j < 7 → (if e = c then M c ||| 2 ^ d else M e).testBit j = _
    rw [if_neg z, pk_un z]
    refine ⟨n1, n2, fun j hj => ?_⟩
    have q2 : (7 * e + j == 7 * c + d) = false := by rw [beq_eq_false_iff_ne]; omega
    rw [sp_H1, n3 j hj, q2, Bool.or_false]
theorem rl_rem {c d : Nat} (C : rl_C nm ty ga xs ys pr th nn T G X Y M) (hc : c < 2) (hd : d < 7) :
    rl_C nm ty ga xs ys (upd pr c (nI (bs_clr (M c) d))) (upd th (7 * c + d) 0) nn T G X Y (fun e => if e = c then bs_clr (M c) d else M e) := by
  obtain ⟨A, hN, hM⟩ := C
  refine ⟨A, hN, fun e he => ?_⟩
  obtain ⟨m1, m2, m3⟩ := hM c hc
  by_cases z : e = c
  · rw [z]
    show upd pr c (nI (bs_clr (M c) d)) c = nI (if c = c then bs_clr (M c) d else M c) ∧ (if c = c then bs_clr (M c) d else M c) < 128 ∧ ∀ j, j < 7 → (if c = c then bs_clr (M c) d else M c).testBit j = _
    rw [if_pos rfl, pk_us]
    refine ⟨rfl, (bs_clrI _ m2 d hd).2, fun j hj => ?_⟩
    rw [bs_clrT _ m2 d hd j hj, sp_H0, m3 j hj]
    by_cases w : j = d
    · rw [w]
      simp
    · have q1 : (j == d) = false := by rw [beq_eq_false_iff_ne]; exact w
      have q2 : (7 * c + j == 7 * c + d) = false := by rw [beq_eq_false_iff_ne]; omega
      rw [q1, q2]
  · obtain ⟨n1, n2, n3⟩ := hM e he
    show upd pr c (nI (bs_clr (M c) d)) e = nI (if e = c then bs_clr (M c) d else M e) ∧ (if e = c then bs_clr (M c) d else M e) < 128 ∧ ∀ j, j < 7 → (if e = c then bs_clr (M c) d else M e).testBit j = _
    rw [if_neg z, pk_un z]
    refine ⟨n1, n2, fun j hj => ?_⟩
    have q2 : (7 * e + j == 7 * c + d) = false := by rw [beq_eq_false_iff_ne]; omega
    rw [sp_H0, n3 j hj, q2]
    simp
theorem rl_name {s : Nat} {v : Int32} (C : rl_C nm ty ga xs ys pr th nn T G X Y M) : rl_C (upd nm s v) ty ga xs ys pr th (upd nn s (v + 1)) T G X Y M := by
  obtain ⟨A, hN, hM⟩ := C
  refine ⟨A, fun j hj => ?_, hM⟩
  by_cases e : j = s
  · rw [e, pk_us, pk_us]
  · rw [pk_un e, pk_un e]
    exact hN j hj
/-! add, the reference's side -/
theorem ne_no2 (p : Int32) : (∃ c, c < 6 ∧ p = nI c) ∨ ((¬ ∃ c, c < 6 ∧ p = nI c) ∧ (∀ post : Int32 → Prop, post 0 → wpX_isNet post p)) := by
  by_cases h : ∃ c, c < 6 ∧ p = nI c
  · exact Or.inl h
  · exact Or.inr ⟨h, (ne_no p).resolve_left h |>.1⟩
theorem sh_neg {x : Int32} (h : ¬ 0 ≤ x) : ¬ ∃ c, c < 6 ∧ x >>> ((6 : Int32) &&& 31) = nI c := by
  rintro ⟨c, hc, e⟩
  have h1 := pk_shr x ((6 : Int32) &&& 31) 6 (by decide)
  rw [e, nI_toInt (by omega), Int.shiftRight_eq_div_pow] at h1
  have h2 : ((2 ^ 6 : Nat) : Int) = 64 := rfl
  rw [h2] at h1
  rw [Int32.le_iff_toInt_le, show (0 : Int32).toInt = 0 by decide] at h
  omega
theorem ya_bad1 {post : Int32 → SY → Prop} {c : Nat} {v2 v3 : Int32} (hc : c < 2) (h : v2 < 0 ∨ nI 3 ≤ v2) (hp : post (-1) (th, ty, ga, xs, ys, nn, to)) : wpY_add post (th, ty, ga, xs, ys, nn, to) (nI c) v2 v3 := by
  unfold wpY_add
  refine ci_Y hc (br_f (by decide) ?_)
  rcases h with h | h
  · exact br_t h hp
  · have h' : (3 : Int32) ≤ v2 := h
    have z : ¬ v2 < 0 := fun e => absurd (Int32.lt_of_le_of_lt h' e) (by decide)
    have w : (2 : Int32) < v2 := Int32.lt_of_lt_of_le (by decide) h'
    exact br_f z (br_t w hp)
theorem ya_net {post : Int32 → SY → Prop} {c t : Nat} {v3 : Int32} (hc : c < 2) (ht : t < 3) (hb : (¬ ((∃ g, g < 6 ∧ v3 &&& 7 = nI g) ∧ (∃ x, x < 6 ∧ (v3 >>> ((3 : Int32) &&& 31)) &&& 7 = nI x) ∧ (∃ y, y < 6 ∧ v3 >>> ((6 : Int32) &&& 31) = nI y))) → post (-1) (th, ty, ga, xs, ys, nn, to))
    (hg : ((∃ g, g < 6 ∧ v3 &&& 7 = nI g) ∧ (∃ x, x < 6 ∧ (v3 >>> ((3 : Int32) &&& 31)) &&& 7 = nI x) ∧ (∃ y, y < 6 ∧ v3 >>> ((6 : Int32) &&& 31) = nI y)) → ∃ n, wY_add_57 post (nI c) (nI t) v3 th ty ga xs ys nn to n 0) : wpY_add post (th, ty, ga, xs, ys, nn, to) (nI c) (nI t) v3 := by
  have yes : ∀ {p : Int32} {post : Int32 → Prop}, (∃ g, g < 6 ∧ p = nI g) → post 1 → wpY_net post (th, ty, ga, xs, ys, nn, to) p := fun ⟨g, h1, h2⟩ hp => by rw [h2]; exact ne_Y h1 hp
  have no : ∀ {p : Int32} {post : Int32 → Prop}, (¬ ∃ g, g < 6 ∧ p = nI g) → post 0 → wpY_net post (th, ty, ga, xs, ys, nn, to) p := fun {p} {post} h hp => ((ne_no p).resolve_left h).2 post _ _ _ _ _ _ _ hp
  unfold wpY_add
  refine ci_Y hc (br_f (by decide) (br_f (nI_pos (by omega)) (br_f (nI_nlt (a := 2) (by omega) (by decide)) ?_)))
  by_cases h1 : ∃ g, g < 6 ∧ v3 &&& 7 = nI g
  · refine yes h1 (br_f (by decide) ?_)
    by_cases h2 : ∃ x, x < 6 ∧ (v3 >>> ((3 : Int32) &&& 31)) &&& 7 = nI x
    · refine yes h2 (br_f (by decide) ?_)
      by_cases h3 : ∃ y, y < 6 ∧ v3 >>> ((6 : Int32) &&& 31) = nI y
      · exact yes h3 (br_f (by decide) (hg ⟨h1, h2, h3⟩))
      · exact no h3 (br_t rfl (hb (fun z => h3 z.2.2)))
    · exact no h2 (br_t rfl (hb (fun z => h2 z.2.1)))
  · exact no h1 (br_t rfl (hb (fun z => h1 z.1)))
end RELA
