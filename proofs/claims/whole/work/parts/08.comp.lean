/-! the class: the same device, the pairing, the names -/
section XSAME
variable {fd : Int32} {nm ty ga xs ys pr tr fm im : Nat → Int32} {T G X Y : Nat → Nat}
theorem xs_95 {post : Int32 → Prop} {r x y : Nat} (A : dv_A ty ga xs ys T G X Y) (hr : r < 14) (hx : x < 100) (hy : y < 100)
    (h1 : x = Y r ∧ y = X r → post 1) (h0 : ¬ (x = Y r ∧ y = X r) → post 0) : wX_sameDevice_95 post (nI r) (nI x) (nI y) fd nm ty ga xs ys pr tr fm im := by
  have ir : vp_in (nI r) 14 := vp_in_nI hr (by decide)
  have ex' : nI x = ys (nI r).toNatClampNeg ↔ x = Y r := cm_eq rfl (dv_Y A (by omega)) hx (dv_bY A r)
  have ey' : nI y = xs (nI r).toNatClampNeg ↔ y = X r := cm_eq rfl (dv_X A (by omega)) hy (dv_bX A r)
  exact ⟨ir, ek_if ex' (fun a => ⟨ir, ek_if ey' (fun b => h1 ⟨a, b⟩) (fun b => h0 (fun z => b z.2))⟩) (fun a => h0 (fun z => a z.1))⟩
theorem xs_49 {post : Int32 → Prop} {l r : Nat} {t : Nat → Nat} (A : dv_A ty ga xs ys T G X Y) (ht : ∀ i, i < 6 → tr i = nI (t i)) (tl : ∀ i, i < 6 → t i < 6) (hl : l < 14) (hr : r < 14)
    (h1 : ((t (X l) = X r ∧ t (Y l) = Y r) ∨ (t (X l) = Y r ∧ t (Y l) = X r)) → post 1)
    (h0 : ¬ ((t (X l) = X r ∧ t (Y l) = Y r) ∨ (t (X l) = Y r ∧ t (Y l) = X r)) → post 0) : wX_sameDevice_49 post (nI l) (nI r) fd nm ty ga xs ys pr tr fm im := by
  have il : vp_in (nI l) 14 := vp_in_nI hl (by decide)
  have ir : vp_in (nI r) 14 := vp_in_nI hr (by decide)
  have x6 := (A.2 l).2.2.1
  have y6 := (A.2 l).2.2.2
  have ex : tr (xs (nI l).toNatClampNeg).toNatClampNeg = nI (t (X l)) := by
    rw [dv_X A (by omega)]
    exact cm_at (by omega) (ht _ x6)
  have ey : tr (ys (nI l).toNatClampNeg).toNatClampNeg = nI (t (Y l)) := by
    rw [dv_Y A (by omega)]
    exact cm_at (by omega) (ht _ y6)
  have b2 := tl _ x6
  have b3 := tl _ y6
  have e1 : nI (t (X l)) = xs (nI r).toNatClampNeg ↔ t (X l) = X r := cm_eq rfl (dv_X A (by omega)) (by omega) (dv_bX A r)
  have e2 : nI (t (Y l)) = ys (nI r).toNatClampNeg ↔ t (Y l) = Y r := cm_eq rfl (dv_Y A (by omega)) (by omega) (dv_bY A r)
  have h95 : ¬ (t (X l) = X r ∧ t (Y l) = Y r) → wX_sameDevice_95 post (nI r) (nI (t (X l))) (nI (t (Y l))) fd nm ty ga xs ys pr tr fm im := fun n =>
    xs_95 A hr (by omega) (by omega) (fun z => h1 (Or.inr z)) (fun z => h0 (fun w => w.elim n z))
  refine ⟨il, cm_in (dv_X A (by omega)) x6 (by decide), nm_r ex ⟨il, cm_in (dv_Y A (by omega)) y6 (by decide), nm_r ey ⟨ir, ?_⟩⟩⟩
  exact ek_if e1 (fun a => ⟨ir, ek_if e2 (fun b => h1 (Or.inl ⟨a, b⟩)) (fun b => h95 (fun z => b z.2))⟩) (fun a => h95 (fun z => a z.1))
theorem xw_same {post : Int32 → Prop} {l r : Nat} {t : Nat → Nat} (A : dv_A ty ga xs ys T G X Y) (ht : ∀ i, i < 6 → tr i = nI (t i)) (tl : ∀ i, i < 6 → t i < 6) (hl : l < 14) (hr : r < 14)
    (h1 : dv_S T G X Y t l r → post 1) (h0 : ¬ dv_S T G X Y t l r → post 0) : wpX_sameDevice post (fd, nm, ty, ga, xs, ys, pr, tr, fm, im) (nI l) (nI r) := by
  have il : vp_in (nI l) 14 := vp_in_nI hl (by decide)
  have ir : vp_in (nI r) 14 := vp_in_nI hr (by decide)
  have g6 := (A.2 l).2.1
  have b1 := tl _ g6
  have eg : tr (ga (nI l).toNatClampNeg).toNatClampNeg = nI (t (G l)) := by
    rw [dv_G A (by omega)]
    exact cm_at (by omega) (ht _ g6)
  refine ⟨il, ir, ek_if (cm_eq (dv_T A (by omega)) (dv_T A (by omega)) (dv_bT A l) (dv_bT A r)) (fun c => ⟨il, ?_⟩) (fun c => h0 (fun z => c z.1))⟩
  refine ek_if (cm_eq (q := 2) (dv_T A (by omega)) rfl (dv_bT A l) (by decide)) (fun d => ?_) (fun d => ⟨il, cm_in (dv_G A (by omega)) g6 (by decide), ir, ?_⟩)
  · exact xs_49 A ht tl hl hr (fun e => h1 ⟨c, Or.inl d, e⟩) (fun e => h0 (fun z => e z.2.2))
  · refine ek_if (cm_eq eg (dv_G A (by omega)) (by omega) (dv_bG A r)) (fun g => ?_) (fun g => h0 (fun z => z.2.1.elim d g))
    exact xs_49 A ht tl hl hr (fun e => h1 ⟨c, Or.inr g, e⟩) (fun e => h0 (fun z => e z.2.2))
theorem xf_3 {post : Int32 → Prop} {l b u : Nat} {t : Nat → Nat} (A : dv_A ty ga xs ys T G X Y) (ht : ∀ i, i < 6 → tr i = nI (t i)) (tl : ∀ i, i < 6 → t i < 6) (hl : l < 14) (hb : b < 2) (hu : u < 128)
    (h1 : ∀ e, e < 7 → u.testBit e = true → dv_S T G X Y t l (7 * b + e) → post (nI e))
    (h0 : (∀ e, e < 7 → u.testBit e = true → ¬ dv_S T G X Y t l (7 * b + e)) → post (-1)) :
    ∀ f e m, e + f = 7 → f < m → (∀ d, d < e → u.testBit d = true → ¬ dv_S T G X Y t l (7 * b + d)) → wX_findPartner_3 post (nI l) (nI b) (nI u) fd nm ty ga xs ys pr tr fm im m (nI e) := by
  intro f
  induction f with
  | zero =>
    intro e m he hm hE
    obtain ⟨m, rfl⟩ : ∃ j, m = j + 1 := ⟨m - 1, by omega⟩
    have e7 : e = 7 := by omega
    rw [e7] at hE ⊢
    exact br_t (by decide) (h0 hE)
  | succ f ih =>
    intro e m he hm hE
    obtain ⟨m, rfl⟩ : ∃ j, m = j + 1 := ⟨m - 1, by omega⟩
    have e7 : e < 7 := by omega
    refine br_f (nI_ge (b := 7) e7 (by decide)) (hb_X hu e7 (fun hbit => br_f (by decide) ?_) (fun hbit => br_t rfl (nm_r (nI_1 e) (ih (e + 1) m (by omega) (by omega) ?_))))
    · rw [ix_7]
      refine xw_same A ht tl hl (by omega) (fun s => br_f (by decide) (h1 e e7 hbit s)) (fun s => br_t rfl (nm_r (nI_1 e) (ih (e + 1) m (by omega) (by omega) ?_)))
      intro d hd hd2
      rcases Nat.lt_or_ge d e with z | z
      · exact hE d z hd2
      · have e2 : d = e := by omega
        rw [e2]
        exact s
    · intro d hd hd2
      rcases Nat.lt_or_ge d e with z | z
      · exact hE d z hd2
      · have e2 : d = e := by omega
        rw [e2, hbit] at hd2
        exact absurd hd2 (by decide)
theorem pm_cnt_le {p : Nat → Bool} {k : Nat → Nat} {z : Nat} : ∀ n d, pm_cnt p k z d ≤ pm_cnt p k z (d + n) := by
  intro n
  induction n with
  | zero => intro d; exact Nat.le_refl _
  | succ n ih =>
    intro d
    have h := ih d
    show pm_cnt p k z d ≤ pm_cnt p k z (d + n) + _
    omega
theorem xd_11 {post : Int32 → Prop} {a b L R : Nat} {t : Nat → Nat} (A : dv_A ty ga xs ys T G X Y) (ht : ∀ i, i < 6 → tr i = nI (t i)) (tl : ∀ i, i < 6 → t i < 6) (ha : a < 2) (hb : b < 2) (hL : L < 128)
    (h1 : fi_D T G X Y (fun d => L.testBit d) (fun d => R.testBit d) a b t → post 1)
    (h0 : ¬ fi_D T G X Y (fun d => L.testBit d) (fun d => R.testBit d) a b t → post 0) :
    ∀ f d m u, d + f = 7 → f < m → u < 128 → (∀ z, pm_cnt (fun e => u.testBit e) (fun e => dv_K T G X Y (fun i => i) (7 * b + e)) z 7 + pm_cnt (fun e => L.testBit e) (fun e => dv_K T G X Y t (7 * a + e)) z d = pm_cnt (fun e => R.testBit e) (fun e => dv_K T G X Y (fun i => i) (7 * b + e)) z 7) → wX_devicesAgree_11 post (nI a) (nI L) (nI b) fd nm ty ga xs ys pr tr fm im m (nI u) (nI d) := by
  intro f
  induction f with
  | zero =>
    intro d m u hd hm hu hE
    obtain ⟨m, rfl⟩ : ∃ j, m = j + 1 := ⟨m - 1, by omega⟩
    have e7 : d = 7 := by omega
    rw [e7] at hE ⊢
    refine br_t (by decide) (pk_eq u 0 (fun e => h1 (fun z => ?_)) (fun e => h0 (fun w => ?_)) rfl rfl (by omega) (by omega))
    · have h2 := hE z
      have h3 : pm_cnt (fun e => u.testBit e) (fun e => dv_K T G X Y (fun i => i) (7 * b + e)) z 7 = 0 := by
        rcases Nat.eq_zero_or_pos (pm_cnt (fun e => u.testBit e) (fun e => dv_K T G X Y (fun i => i) (7 * b + e)) z 7) with c | c
        · exact c
        · obtain ⟨x, _, h4, _⟩ := pm_cnt_ex 7 c
          rw [e] at h4
          simp at h4
      rw [h3, Nat.zero_add] at h2
      exact h2
    · obtain ⟨j, hj, hjb⟩ := bs_zero u hu e
      have h2 := hE (dv_K T G X Y (fun i => i) (7 * b + j))
      have h3 := pm_cnt_pos (p := fun e => u.testBit e) (k := fun e => dv_K T G X Y (fun i => i) (7 * b + e)) (z := dv_K T G X Y (fun i => i) (7 * b + j)) 7 j hj hjb rfl
      have h4 := w (dv_K T G X Y (fun i => i) (7 * b + j))
      omega
  | succ f ih =>
    intro d m u hd hm hu hE
    obtain ⟨m, rfl⟩ : ∃ j, m = j + 1 := ⟨m - 1, by omega⟩
    have d7 : d < 7 := by omega
    refine br_f (nI_ge (b := 7) d7 (by decide)) (hb_X hL d7 (fun hbit => br_f (by decide) ?_) (fun hbit => br_t rfl (nm_r (nI_1 d) (ih (d + 1) m u (by omega) (by omega) hu (fun z => ?_)))))
    · rw [ix_7]
      refine ⟨8, xf_3 A ht tl (by omega) hb hu (fun e e7 hub hs => ?_) (fun hn => br_t rfl (h0 (fun w => ?_))) 7 0 8 rfl (by decide) (fun d h => absurd h (Nat.not_lt_zero d))⟩
      · have c := bs_clrI u hu e e7
        have hne : ¬ nI e = -1 := fun h => by
          have h5 := nI_pos (n := e) (by omega)
          rw [h] at h5
          exact h5 (by decide)
        refine br_f hne (nm_r c.1 (nm_r (nI_1 d) (ih (d + 1) m (bs_clr u e) (by omega) (by omega) c.2 (fun z => ?_))))
        have h2 := hE z
        have h3 := pm_rm (U := fun e => u.testBit e) (V := fun j => (bs_clr u e).testBit j) (k := fun e => dv_K T G X Y (fun i => i) (7 * b + e)) (e := e) z 7 e7 hub (fun j hj => bs_clrT u hu e e7 j hj)
        have h4 : dv_K T G X Y t (7 * a + d) = dv_K T G X Y (fun i => i) (7 * b + e) := (dv_K_iff A.2 tl _ _).mpr hs
        simp only [pm_cnt] at h2 h3 ⊢
        simp only [hbit, true_and]
        rw [h4]
        omega
      · have h2 := hE (dv_K T G X Y t (7 * a + d))
        have h3 : pm_cnt (fun e => u.testBit e) (fun e => dv_K T G X Y (fun i => i) (7 * b + e)) (dv_K T G X Y t (7 * a + d)) 7 = 0 := by
          rcases Nat.eq_zero_or_pos (pm_cnt (fun e => u.testBit e) (fun e => dv_K T G X Y (fun i => i) (7 * b + e)) (dv_K T G X Y t (7 * a + d)) 7) with c | c
          · exact c
          · obtain ⟨x, hx, h4, h5⟩ := pm_cnt_ex 7 c
            exact absurd ((dv_K_iff A.2 tl _ _).mp h5.symm) (hn x hx h4)
        have h4 : pm_cnt (fun e => L.testBit e) (fun e => dv_K T G X Y t (7 * a + e)) (dv_K T G X Y t (7 * a + d)) (d + 1) = pm_cnt (fun e => L.testBit e) (fun e => dv_K T G X Y t (7 * a + e)) (dv_K T G X Y t (7 * a + d)) d + 1 := by
          show _ + (if L.testBit d = true ∧ _ then 1 else 0) = _
          rw [if_pos ⟨hbit, rfl⟩]
        have h5 := pm_cnt_le (p := fun e => L.testBit e) (k := fun e => dv_K T G X Y t (7 * a + e)) (z := dv_K T G X Y t (7 * a + d)) f (d + 1)
        have h6 := w (dv_K T G X Y t (7 * a + d))
        rw [show d + 1 + f = 7 by omega] at h5
        omega
    · have h2 := hE z
      have h4 : pm_cnt (fun e => L.testBit e) (fun e => dv_K T G X Y t (7 * a + e)) z (d + 1) = pm_cnt (fun e => L.testBit e) (fun e => dv_K T G X Y t (7 * a + e)) z d := by
        show _ + (if L.testBit d = true ∧ _ then 1 else 0) = _
        rw [if_neg (fun w => th_cl hbit w.1)]
        rfl
      rw [h4]
      exact h2
theorem xw_devs {post : Int32 → Prop} {a b L R : Nat} {t : Nat → Nat} (A : dv_A ty ga xs ys T G X Y) (ht : ∀ i, i < 6 → tr i = nI (t i)) (tl : ∀ i, i < 6 → t i < 6) (ha : a < 2) (hb : b < 2) (hL : L < 128) (hR : R < 128) (ep : pr b = nI R)
    (h1 : fi_D T G X Y (fun d => L.testBit d) (fun d => R.testBit d) a b t → post 1)
    (h0 : ¬ fi_D T G X Y (fun d => L.testBit d) (fun d => R.testBit d) a b t → post 0) : wpX_devicesAgree post (fd, nm, ty, ga, xs, ys, pr, tr, fm, im) (nI a) (nI L) (nI b) :=
  ⟨vp_in_nI hb (by decide), nm_r (cm_at (by omega) ep) ⟨8, xd_11 A ht tl ha hb hL h1 h0 7 0 8 R rfl (by decide) hR (fun z => rfl)⟩⟩
theorem xn_2 {post : Int32 → Prop} {a b : Nat} {t : Nat → Nat} (ht : ∀ i, i < 6 → tr i = nI (t i)) (tl : ∀ i, i < 6 → t i < 6) (ha : a < 2) (hb : b < 2)
    (h1 : fi_N nm a b t → post 1) (h0 : ¬ fi_N nm a b t → post 0) :
    ∀ f i m, i + f = 6 → f < m → (∀ j, j < i → nm (6 * a + j) = nm (6 * b + t j)) → wX_namesAgree_2 post (nI a) (nI b) fd nm ty ga xs ys pr tr fm im m (nI i) := by
  intro f
  induction f with
  | zero =>
    intro i m hi hm hE
    obtain ⟨m, rfl⟩ : ∃ j, m = j + 1 := ⟨m - 1, by omega⟩
    have e6 : i = 6 := by omega
    rw [e6] at hE ⊢
    exact br_t (by decide) (h1 hE)
  | succ f ih =>
    intro i m hi hm hE
    obtain ⟨m, rfl⟩ : ∃ j, m = j + 1 := ⟨m - 1, by omega⟩
    have hi6 : i < 6 := by omega
    have t6 := tl i hi6
    have et : tr (nI i).toNatClampNeg = nI (t i) := cm_at (by omega) (ht i hi6)
    refine br_f (nI_ge (b := 6) hi6 (by decide)) ?_
    rw [et, ix_6, ix_6, nI_clamp (by omega), nI_clamp (by omega)]
    refine ⟨vp_in_nI (by omega) (by decide), vp_in_nI hi6 (by decide), vp_in_nI (by omega) (by decide), br_c (fun e => ?_) (fun e => ?_)⟩
    · refine nm_r (nI_1 i) (ih (i + 1) m (by omega) (by omega) (fun j hj => ?_))
      rcases Nat.lt_or_ge j i with z | z
      · exact hE j z
      · have e2 : j = i := by omega
        rw [e2]
        exact e
    · exact h0 (fun h => e (h i hi6))
theorem xw_names {post : Int32 → Prop} {a b : Nat} {t : Nat → Nat} (ht : ∀ i, i < 6 → tr i = nI (t i)) (tl : ∀ i, i < 6 → t i < 6) (ha : a < 2) (hb : b < 2)
    (h1 : fi_N nm a b t → post 1) (h0 : ¬ fi_N nm a b t → post 0) : wpX_namesAgree post (fd, nm, ty, ga, xs, ys, pr, tr, fm, im) (nI a) (nI b) :=
  ⟨7, xn_2 ht tl ha hb h1 h0 6 0 7 rfl (by decide) (fun j h => absurd h (Nat.not_lt_zero j))⟩
end XSAME
