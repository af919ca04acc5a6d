/-! the reference: the same device, and whether an assignment fits -/
section YSAME
variable {th ty ga xs ys nn to : Nat → Int32} {T G X Y : Nat → Nat}
theorem ys_0 {post : Int32 → Prop} {l r : Nat} {g : Int32} (hl : l < 14) (hr : r < 14) (h : post 0) : wY_same_127 post (nI l) (nI r) g 0 th ty ga xs ys nn to :=
  ⟨vp_in_nI hl (by decide), br_c (fun _ => h) (fun _ => ⟨vp_in_nI hr (by decide), br_c (fun _ => h) (fun _ => ⟨vp_in_nI hl (by decide), vp_in_nI hr (by decide), br_c (fun _ => br_t rfl h) (fun _ => h)⟩)⟩)⟩
theorem ys_1 {post : Int32 → Prop} {l r g : Nat} (A : dv_A ty ga xs ys T G X Y) (hl : l < 14) (hr : r < 14) (hg : g < 100)
    (h1 : th_H th l = true → th_H th r = true → T l = T r → (T l = 2 ∨ g = G r) → post 1)
    (h0 : ¬ (th_H th l = true ∧ th_H th r = true ∧ T l = T r ∧ (T l = 2 ∨ g = G r)) → post 0) : wY_same_127 post (nI l) (nI r) (nI g) 1 th ty ga xs ys nn to := by
  have il : vp_in (nI l) 14 := vp_in_nI hl (by decide)
  have ir : vp_in (nI r) 14 := vp_in_nI hr (by decide)
  refine ⟨il, ek_if (th_f (by omega)) (fun a => h0 (fun z => th_cl a z.1)) (fun a => ⟨ir, ek_if (th_f (by omega)) (fun b => h0 (fun z => th_cl b z.2.1)) (fun b => ⟨il, ir, ?_⟩)⟩)⟩
  refine ek_if (cm_eq (dv_T A (by omega)) (dv_T A (by omega)) (dv_bT A l) (dv_bT A r)) (fun c => br_f (by decide) ⟨il, ?_⟩) (fun c => h0 (fun z => c z.2.2.1))
  refine ek_if (cm_eq (q := 2) (dv_T A (by omega)) rfl (dv_bT A l) (by decide)) (fun d => h1 (th_nf a) (th_nf b) c (Or.inl d)) (fun d => ⟨ir, ?_⟩)
  exact ek_if (cm_eq rfl (dv_G A (by omega)) hg (dv_bG A r)) (fun e => h1 (th_nf a) (th_nf b) c (Or.inr e)) (fun e => h0 (fun z => z.2.2.2.elim d e))
theorem ys_76 {post : Int32 → Prop} {l r g x y : Nat} (A : dv_A ty ga xs ys T G X Y) (hl : l < 14) (hr : r < 14) (hg : g < 100) (hx : x < 100) (hy : y < 100)
    (h1 : th_H th l = true → th_H th r = true → T l = T r → (T l = 2 ∨ g = G r) → ((x = X r ∧ y = Y r) ∨ (x = Y r ∧ y = X r)) → post 1)
    (h0 : ¬ (th_H th l = true ∧ th_H th r = true ∧ T l = T r ∧ (T l = 2 ∨ g = G r) ∧ ((x = X r ∧ y = Y r) ∨ (x = Y r ∧ y = X r))) → post 0) : wY_same_76 post (nI l) (nI r) (nI g) (nI x) (nI y) th ty ga xs ys nn to := by
  have ir : vp_in (nI r) 14 := vp_in_nI hr (by decide)
  have ex : nI x = xs (nI r).toNatClampNeg ↔ x = X r := cm_eq rfl (dv_X A (by omega)) hx (dv_bX A r)
  have ey : nI y = ys (nI r).toNatClampNeg ↔ y = Y r := cm_eq rfl (dv_Y A (by omega)) hy (dv_bY A r)
  have ex' : nI x = ys (nI r).toNatClampNeg ↔ x = Y r := cm_eq rfl (dv_Y A (by omega)) hx (dv_bY A r)
  have ey' : nI y = xs (nI r).toNatClampNeg ↔ y = X r := cm_eq rfl (dv_X A (by omega)) hy (dv_bX A r)
  have good : ((x = X r ∧ y = Y r) ∨ (x = Y r ∧ y = X r)) → wY_same_122 post (nI l) (nI r) (nI g) th ty ga xs ys nn to := fun e => by
    unfold wY_same_122
    exact ys_1 A hl hr hg (fun a b c d => h1 a b c d e) (fun n => h0 (fun z => n ⟨z.1, z.2.1, z.2.2.1, z.2.2.2.1⟩))
  have bad : ¬ ((x = X r ∧ y = Y r) ∨ (x = Y r ∧ y = X r)) → wY_same_126 post (nI l) (nI r) (nI g) th ty ga xs ys nn to := fun e => by
    unfold wY_same_126
    exact ys_0 hl hr (h0 (fun z => e z.2.2.2.2))
  have h100 : ¬ (x = X r ∧ y = Y r) → wY_same_100 post (nI l) (nI r) (nI g) (nI x) (nI y) th ty ga xs ys nn to := fun e =>
    ⟨ir, ek_if ex' (fun a => ⟨ir, ek_if ey' (fun b => good (Or.inr ⟨a, b⟩)) (fun b => bad (fun z => z.elim e (fun w => b w.2)))⟩) (fun a => bad (fun z => z.elim e (fun w => a w.1)))⟩
  exact ⟨ir, ek_if ex (fun a => ⟨ir, ek_if ey (fun b => good (Or.inl ⟨a, b⟩)) (fun b => h100 (fun z => b z.2))⟩) (fun a => h100 (fun z => a z.1))⟩
theorem ys_m {post : Int32 → Prop} {l r : Nat} {t : Nat → Nat} (A : dv_A ty ga xs ys T G X Y) (ht : ∀ i, i < 6 → to i = nI (t i)) (tl : ∀ i, i < 6 → t i < 6) (hl : l < 14) (hr : r < 14)
    (h1 : th_H th l = true → th_H th r = true → dv_S T G X Y t l r → post 1)
    (h0 : ¬ (th_H th l = true ∧ th_H th r = true ∧ dv_S T G X Y t l r) → post 0) : wpY_same post (th, ty, ga, xs, ys, nn, to) (nI l) 1 (nI r) := by
  have il : vp_in (nI l) 14 := vp_in_nI hl (by decide)
  have n1 : ¬ (1 : Int32) = 0 := by decide
  have g6 := (A.2 l).2.1
  have x6 := (A.2 l).2.2.1
  have y6 := (A.2 l).2.2.2
  have eg : to (ga (nI l).toNatClampNeg).toNatClampNeg = nI (t (G l)) := by
    rw [dv_G A (by omega)]
    exact cm_at (by omega) (ht _ g6)
  have ex : to (xs (nI l).toNatClampNeg).toNatClampNeg = nI (t (X l)) := by
    rw [dv_X A (by omega)]
    exact cm_at (by omega) (ht _ x6)
  have ey : to (ys (nI l).toNatClampNeg).toNatClampNeg = nI (t (Y l)) := by
    rw [dv_Y A (by omega)]
    exact cm_at (by omega) (ht _ y6)
  have b1 := tl _ g6
  have b2 := tl _ x6
  have b3 := tl _ y6
  refine br_f n1 ⟨il, cm_in (dv_G A (by omega)) g6 (by decide), ?_⟩
  rw [eg]
  refine br_f n1 ⟨il, cm_in (dv_X A (by omega)) x6 (by decide), ?_⟩
  rw [ex]
  refine br_f n1 ⟨il, cm_in (dv_Y A (by omega)) y6 (by decide), ?_⟩
  rw [ey]
  exact ys_76 A hl hr (by omega) (by omega) (by omega) (fun a b c d e => h1 a b ⟨c, d, e⟩) (fun n => h0 (fun z => n ⟨z.1, z.2.1, z.2.2.1, z.2.2.2.1, z.2.2.2.2⟩))
theorem ys_n {post : Int32 → Prop} {l r : Nat} (A : dv_A ty ga xs ys T G X Y) (hl : l < 14) (hr : r < 14)
    (h1 : th_H th l = true → th_H th r = true → dv_S T G X Y (fun i => i) l r → post 1)
    (h0 : ¬ (th_H th l = true ∧ th_H th r = true ∧ dv_S T G X Y (fun i => i) l r) → post 0) : wpY_same post (th, ty, ga, xs, ys, nn, to) (nI l) 0 (nI r) := by
  have il : vp_in (nI l) 14 := vp_in_nI hl (by decide)
  refine br_t rfl ⟨il, ?_⟩
  rw [dv_G A (by omega)]
  refine br_t rfl ⟨il, ?_⟩
  rw [dv_X A (by omega)]
  refine br_t rfl ⟨il, ?_⟩
  rw [dv_Y A (by omega)]
  exact ys_76 A hl hr (dv_bG A l) (dv_bX A l) (dv_bY A l) (fun a b c d e => h1 a b ⟨c, d, e⟩) (fun n => h0 (fun z => n ⟨z.1, z.2.1, z.2.2.1, z.2.2.2.1, z.2.2.2.2⟩))
/-- the counting of the devices that are the same as device d of circuit b -/
theorem yf_174 {post : Int32 → Prop} {J : Int32 → Int32 → Prop} {a b d : Nat} {t : Nat → Nat} {P Q : Nat → Bool} (A : dv_A ty ga xs ys T G X Y) (ht : ∀ i, i < 6 → to i = nI (t i)) (tl : ∀ i, i < 6 → t i < 6) (ha : a < 2) (hb : b < 2) (hd : d < 7)
    (hP : ∀ e, e < 7 → (P e = true ↔ (th_H th (7 * a + e) = true ∧ th_H th (7 * b + d) = true ∧ dv_S T G X Y t (7 * a + e) (7 * b + d))))
    (hQ : ∀ e, e < 7 → (Q e = true ↔ (th_H th (7 * b + e) = true ∧ th_H th (7 * b + d) = true ∧ dv_S T G X Y (fun i => i) (7 * b + e) (7 * b + d))))
    (j1 : pm_tot P 7 = pm_tot Q 7 → J 1 (nI (d + 1))) (j0 : pm_tot P 7 ≠ pm_tot Q 7 → J 0 (nI (d + 1))) :
    ∀ f e m, e + f = 7 → f < m → wY_fits_174 post J (nI a) (nI b) (nI d) th ty ga xs ys nn to m (nI (pm_tot P e)) (nI (pm_tot Q e)) (nI e) := by
  intro f
  induction f with
  | zero =>
    intro e m he hm
    obtain ⟨m, rfl⟩ : ∃ j, m = j + 1 := ⟨m - 1, by omega⟩
    have e7 : e = 7 := by omega
    have l1 := pm_tot_le P 7
    have l2 := pm_tot_le Q 7
    rw [e7]
    exact br_t (by decide) (pk_eq _ _ (fun h => nm_r (nI_1 d) (j1 h)) (fun h => nm_r (nI_1 d) (j0 h)) rfl rfl (by omega) (by omega))
  | succ f ih =>
    intro e m he hm
    obtain ⟨m, rfl⟩ : ∃ j, m = j + 1 := ⟨m - 1, by omega⟩
    have he7 : e < 7 := by omega
    refine br_f (nI_ge (b := 7) he7 (by decide)) ?_
    rw [ix_7', ix_7']
    have second : ∀ p : Nat, p = pm_tot P (e + 1) → wY_fits_212 post J (wY_fits_174 post J (nI a) (nI b) (nI d) th ty ga xs ys nn to m) (nI a) (nI b) (nI d) (nI (pm_tot Q e)) (nI e) (nI p) th ty ga xs ys nn to := by
      intro p hp
      unfold wY_fits_212
      rw [ix_7', ix_7']
      refine ys_n A (by omega) (by omega) (fun z1 z2 z3 => br_f (by decide) ?_) (fun z => br_t rfl ?_)
      · have q1 : pm_tot Q (e + 1) = pm_tot Q e + 1 := by
          simp only [pm_tot]
          rw [if_pos ((hQ e he7).mpr ⟨z1, z2, z3⟩)]
        refine nm_r (nI_1 _) (nm_r (nI_1 e) ?_)
        rw [← q1, hp]
        exact ih (e + 1) m (by omega) (by omega)
      · have q1 : pm_tot Q (e + 1) = pm_tot Q e := by
          simp only [pm_tot]
          rw [if_neg (fun h => z ((hQ e he7).mp h))]
          rfl
        refine nm_r (nI_1 e) ?_
        rw [← q1, hp]
        exact ih (e + 1) m (by omega) (by omega)
    refine ys_m A ht tl (by omega) (by omega) (fun z1 z2 z3 => br_f (by decide) ?_) (fun z => br_t rfl ?_)
    · rw [nI_1]
      exact second _ (by
        simp only [pm_tot]
        rw [if_pos ((hP e he7).mpr ⟨z1, z2, z3⟩)])
    · exact second _ (by
        simp only [pm_tot]
        rw [if_neg (fun h => z ((hP e he7).mp h))]
        rfl)
theorem yf_154z {post : Int32 → Prop} {a b d : Int32} (h : post 0) (m : Nat) : wY_fits_154 post a b th ty ga xs ys nn to (m + 1) 0 d :=
  br_c (fun _ => ⟨rfl, h⟩) (fun _ => br_t rfl ⟨rfl, h⟩)
theorem yf_154 {post : Int32 → Prop} {a b : Nat} {t : Nat → Nat} {P Q : Nat → Nat → Bool} (A : dv_A ty ga xs ys T G X Y) (ht : ∀ i, i < 6 → to i = nI (t i)) (tl : ∀ i, i < 6 → t i < 6) (ha : a < 2) (hb : b < 2)
    (hP : ∀ d, d < 7 → ∀ e, e < 7 → (P d e = true ↔ (th_H th (7 * a + e) = true ∧ th_H th (7 * b + d) = true ∧ dv_S T G X Y t (7 * a + e) (7 * b + d))))
    (hQ : ∀ d, d < 7 → ∀ e, e < 7 → (Q d e = true ↔ (th_H th (7 * b + e) = true ∧ th_H th (7 * b + d) = true ∧ dv_S T G X Y (fun i => i) (7 * b + e) (7 * b + d))))
    (h1 : (∀ d, d < 7 → pm_tot (P d) 7 = pm_tot (Q d) 7) → post 1) (h0 : ¬ (∀ d, d < 7 → pm_tot (P d) 7 = pm_tot (Q d) 7) → post 0) :
    ∀ f d m, d + f = 7 → f + 1 < m → (∀ c, c < d → pm_tot (P c) 7 = pm_tot (Q c) 7) → wY_fits_154 post (nI a) (nI b) th ty ga xs ys nn to m 1 (nI d) := by
  intro f
  induction f with
  | zero =>
    intro d m hd hm hE
    obtain ⟨m, rfl⟩ : ∃ j, m = j + 1 := ⟨m - 1, by omega⟩
    have e7 : d = 7 := by omega
    rw [e7] at hE ⊢
    exact br_t (by decide) ⟨rfl, h1 hE⟩
  | succ f ih =>
    intro d m hd hm hE
    obtain ⟨m, rfl⟩ : ∃ j, m = j + 2 := ⟨m - 2, by omega⟩
    have hd7 : d < 7 := by omega
    refine br_f (nI_ge (b := 7) hd7 (by decide)) (br_f (by decide) ⟨8, ?_⟩)
    refine yf_174 A ht tl ha hb hd7 (hP d hd7) (hQ d hd7) (fun e => ?_) (fun e => ?_) 7 0 8 rfl (by decide)
    · refine ih (d + 1) (m + 1) (by omega) (by omega) (fun c hc => ?_)
      rcases Nat.lt_or_ge c d with z | z
      · exact hE c z
      · have e2 : c = d := by omega
        rw [e2]
        exact e
    · exact yf_154z (h0 (fun h => e (h d hd7))) m
theorem yf_69 {post : Int32 → Prop} {a b : Nat} {x3 : Int32} (ha : a < 2) (hb : b < 2)
    (k : (((x3 = 0 → (∃ n154 : Nat, wY_fits_154 post (nI a) (nI b) th ty ga xs ys nn to n154 0 0)) ∧ (¬ x3 = 0 → (((nI (pm_tot (fun d => th_H th (7 * a + d)) 7) = nI (pm_tot (fun d => th_H th (7 * b + d)) 7) → (∃ n154 : Nat, wY_fits_154 post (nI a) (nI b) th ty ga xs ys nn to n154 1 0)) ∧ (¬ nI (pm_tot (fun d => th_H th (7 * a + d)) 7) = nI (pm_tot (fun d => th_H th (7 * b + d)) 7) → (∃ n154 : Nat, wY_fits_154 post (nI a) (nI b) th ty ga xs ys nn to n154 0 0)))))))) :
    ∀ f d m, d + f = 7 → f < m → wY_fits_69 post (nI a) (nI b) x3 th ty ga xs ys nn to m (nI (pm_tot (fun d => th_H th (7 * a + d)) d)) (nI (pm_tot (fun d => th_H th (7 * b + d)) d)) (nI d) := by
  intro f
  induction f with
  | zero =>
    intro d m hd hm
    obtain ⟨m, rfl⟩ : ∃ j, m = j + 1 := ⟨m - 1, by omega⟩
    have e7 : d = 7 := by omega
    rw [e7]
    exact br_t (by decide) k
  | succ f ih =>
    intro d m hd hm
    obtain ⟨m, rfl⟩ : ∃ j, m = j + 1 := ⟨m - 1, by omega⟩
    have hd7 : d < 7 := by omega
    refine br_f (nI_ge (b := 7) hd7 (by decide)) ?_
    rw [ix_7']
    have second : ∀ p : Nat, p = pm_tot (fun d => th_H th (7 * a + d)) (d + 1) → wY_fits_100 post (wY_fits_69 post (nI a) (nI b) x3 th ty ga xs ys nn to m) (nI a) (nI b) x3 (nI (pm_tot (fun d => th_H th (7 * b + d)) d)) (nI d) (nI p) th ty ga xs ys nn to := by
      intro p hp
      unfold wY_fits_100
      rw [ix_7']
      refine ⟨vp_in_nI (by omega) (by decide), ek_if (th_f (by omega)) (fun z => ?_) (fun z => ?_)⟩
      · have q1 : pm_tot (fun d => th_H th (7 * b + d)) (d + 1) = pm_tot (fun d => th_H th (7 * b + d)) d := by
          simp only [pm_tot]
          rw [if_neg (th_cl z)]
          rfl
        refine nm_r (nI_1 d) ?_
        rw [← q1, hp]
        exact ih (d + 1) m (by omega) (by omega)
      · have q1 : pm_tot (fun d => th_H th (7 * b + d)) (d + 1) = pm_tot (fun d => th_H th (7 * b + d)) d + 1 := by
          simp only [pm_tot]
          rw [if_pos (th_nf z)]
        refine nm_r (nI_1 _) (nm_r (nI_1 d) ?_)
        rw [← q1, hp]
        exact ih (d + 1) m (by omega) (by omega)
    refine ⟨vp_in_nI (by omega) (by decide), ek_if (th_f (by omega)) (fun z => ?_) (fun z => ?_)⟩
    · exact second _ (by
        simp only [pm_tot]
        rw [if_neg (th_cl z)]
        rfl)
    · rw [nI_1]
      exact second _ (by
        simp only [pm_tot]
        rw [if_pos (th_nf z)])
/-- an assignment of nets fits: names and devices -/
def fi_N (nn : Nat → Int32) (a b : Nat) (t : Nat → Nat) : Prop := ∀ i, i < 6 → nn (6 * a + i) = nn (6 * b + t i)
def fi_D (T G X Y : Nat → Nat) (p q : Nat → Bool) (a b : Nat) (t : Nat → Nat) : Prop := ∀ z, pm_cnt p (fun d => dv_K T G X Y t (7 * a + d)) z 7 = pm_cnt q (fun d => dv_K T G X Y (fun i => i) (7 * b + d)) z 7
theorem yf_5z {post : Int32 → Prop} {a b : Nat} (h : ∃ n, wY_fits_69 post (nI a) (nI b) 0 th ty ga xs ys nn to n 0 0 0) : ∀ f i m, i + f = 6 → f < m → wY_fits_5 post (nI a) (nI b) th ty ga xs ys nn to m 0 (nI i) := by
  intro f
  induction f with
  | zero =>
    intro i m hi hm
    obtain ⟨m, rfl⟩ : ∃ j, m = j + 1 := ⟨m - 1, by omega⟩
    have e6 : i = 6 := by omega
    rw [e6]
    exact br_t (by decide) h
  | succ f ih =>
    intro i m hi hm
    obtain ⟨m, rfl⟩ : ∃ j, m = j + 1 := ⟨m - 1, by omega⟩
    exact br_f (nI_ge (b := 6) (by omega) (by decide)) (br_t rfl (nm_r (nI_1 i) (ih (i + 1) m (by omega) (by omega))))
theorem yf_5 {post : Int32 → Prop} {a b : Nat} {t : Nat → Nat} (ht : ∀ i, i < 6 → to i = nI (t i)) (tl : ∀ i, i < 6 → t i < 6) (ha : a < 2) (hb : b < 2)
    (h1 : fi_N nn a b t → ∃ n, wY_fits_69 post (nI a) (nI b) 1 th ty ga xs ys nn to n 0 0 0) (h0 : ¬ fi_N nn a b t → ∃ n, wY_fits_69 post (nI a) (nI b) 0 th ty ga xs ys nn to n 0 0 0) :
    ∀ f i m, i + f = 6 → f < m → (∀ j, j < i → nn (6 * a + j) = nn (6 * b + t j)) → wY_fits_5 post (nI a) (nI b) th ty ga xs ys nn to m 1 (nI i) := by
  intro f
  induction f with
  | zero =>
    intro i m hi hm hE
    obtain ⟨m, rfl⟩ : ∃ j, m = j + 1 := ⟨m - 1, by omega⟩
    have e6 : i = 6 := by omega
    rw [e6] at hE ⊢
    exact br_t (by decide) (h1 hE)
  | succ f ih =>
    intro i m hi hm hE
    obtain ⟨m, rfl⟩ : ∃ j, m = j + 1 := ⟨m - 1, by omega⟩
    have hi6 : i < 6 := by omega
    have t6 := tl i hi6
    have et : to (nI i).toNatClampNeg = nI (t i) := cm_at (by omega) (ht i hi6)
    refine br_f (nI_ge (b := 6) hi6 (by decide)) (br_f (by decide) ?_)
    rw [et, ix_6', ix_6', nI_clamp (by omega), nI_clamp (by omega)]
    refine ⟨vp_in_nI (by omega) (by decide), vp_in_nI hi6 (by decide), vp_in_nI (by omega) (by decide), br_c (fun e => ?_) (fun e => ?_)⟩
    · refine nm_r (nI_1 i) (ih (i + 1) m (by omega) (by omega) (fun j hj => ?_))
      rcases Nat.lt_or_ge j i with z | z
      · exact hE j z
      · have e2 : j = i := by omega
        rw [e2]
        exact e
    · exact nm_r (nI_1 i) (yf_5z (h0 (fun h => e (h i hi6))) f (i + 1) m (by omega) (by omega))
theorem pm_tot_cnt {p : Nat → Bool} {k : Nat → Nat} {z : Nat} {Q : Nat → Bool} : ∀ n, (∀ e, e < n → (Q e = true ↔ (p e = true ∧ k e = z))) → pm_tot Q n = pm_cnt p k z n := by
  intro n
  induction n with
  | zero => intro _; rfl
  | succ n ih =>
    intro h
    simp only [pm_tot, pm_cnt]
    rw [ih (fun e he => h e (by omega))]
    by_cases c : p n = true ∧ k n = z
    · rw [if_pos c, if_pos ((h n (by omega)).mpr c)]
    · rw [if_neg c, if_neg (fun w => c ((h n (by omega)).mp w))]
theorem yw_fits {post : Int32 → Prop} {a b : Nat} {t : Nat → Nat} (A : dv_A ty ga xs ys T G X Y) (ht : ∀ i, i < 6 → to i = nI (t i)) (tl : ∀ i, i < 6 → t i < 6) (ha : a < 2) (hb : b < 2)
    (h1 : fi_N nn a b t → fi_D T G X Y (fun d => th_H th (7 * a + d)) (fun d => th_H th (7 * b + d)) a b t → post 1)
    (h0 : ¬ (fi_N nn a b t ∧ fi_D T G X Y (fun d => th_H th (7 * a + d)) (fun d => th_H th (7 * b + d)) a b t) → post 0) : wpY_fits post (th, ty, ga, xs, ys, nn, to) (nI a) (nI b) := by
  have zero : post 0 → ∃ n, wY_fits_154 post (nI a) (nI b) th ty ga xs ys nn to n 0 0 := fun h => ⟨1, yf_154z h 0⟩
  have idl : ∀ i, i < 6 → (fun i : Nat => i) i < 6 := fun i h => h
  have ref := pm_ref (p := fun d => th_H th (7 * a + d)) (q := fun d => th_H th (7 * b + d)) (kl := fun d => dv_K T G X Y t (7 * a + d)) (kr := fun d => dv_K T G X Y (fun i => i) (7 * b + d)) (B := 648) (fun d _ _ => dv_K_lt A.2 tl _) (fun d _ _ => dv_K_lt A.2 idl _)
  have lA := pm_tot_le (fun d => th_H th (7 * a + d)) 7
  have lB := pm_tot_le (fun d => th_H th (7 * b + d)) 7
  refine ⟨7, yf_5 ht tl ha hb (fun hn => ⟨8, ?_⟩) (fun hn => ⟨8, ?_⟩) 6 0 7 rfl (by decide) (fun j h => absurd h (Nat.not_lt_zero j))⟩
  · refine yf_69 ha hb (br_f (by decide) (pk_eq _ _ (fun e => ⟨9, ?_⟩) (fun e => ?_) rfl rfl (by omega) (by omega))) 7 0 8 rfl (by decide)
    · have cP : ∀ d, d < 7 → th_H th (7 * b + d) = true → pm_tot (fun e => th_H th (7 * a + e) && (th_H th (7 * b + d) && decide (dv_K T G X Y t (7 * a + e) = dv_K T G X Y (fun i => i) (7 * b + d)))) 7 = pm_cnt (fun d => th_H th (7 * a + d)) (fun d => dv_K T G X Y t (7 * a + d)) (dv_K T G X Y (fun i => i) (7 * b + d)) 7 := fun d _ hd => pm_tot_cnt 7 (fun e _ => by simp [hd])
      have cQ : ∀ d, d < 7 → th_H th (7 * b + d) = true → pm_tot (fun e => th_H th (7 * b + e) && (th_H th (7 * b + d) && decide (dv_K T G X Y (fun i => i) (7 * b + e) = dv_K T G X Y (fun i => i) (7 * b + d)))) 7 = pm_cnt (fun d => th_H th (7 * b + d)) (fun d => dv_K T G X Y (fun i => i) (7 * b + d)) (dv_K T G X Y (fun i => i) (7 * b + d)) 7 := fun d _ hd => pm_tot_cnt 7 (fun e _ => by simp [hd])
      have cF : ∀ (d : Nat) (R : Nat → Bool) (D : Nat → Bool), th_H th (7 * b + d) = false → pm_tot (fun e => R e && (th_H th (7 * b + d) && D e)) 7 = 0 := fun d R D hd => (pm_tot_0 7).mpr (fun c _ => by simp [hd])
      have key : (∀ d, d < 7 → pm_tot (fun e => th_H th (7 * a + e) && (th_H th (7 * b + d) && decide (dv_K T G X Y t (7 * a + e) = dv_K T G X Y (fun i => i) (7 * b + d)))) 7 = pm_tot (fun e => th_H th (7 * b + e) && (th_H th (7 * b + d) && decide (dv_K T G X Y (fun i => i) (7 * b + e) = dv_K T G X Y (fun i => i) (7 * b + d)))) 7) ↔ fi_D T G X Y (fun d => th_H th (7 * a + d)) (fun d => th_H th (7 * b + d)) a b t := by
        constructor
        · intro h
          refine ref.mp ⟨e, fun d hd hq => ?_⟩
          have h2 := h d hd
          rw [cP d hd hq, cQ d hd hq] at h2
          exact h2
        · intro h d hd
          cases hq : th_H th (7 * b + d) with
          | false =>
            rw [← hq, cF d _ _ hq, cF d _ _ hq]
          | true =>
            rw [← hq, cP d hd hq, cQ d hd hq]
            exact h _
      refine yf_154 (P := fun d e => th_H th (7 * a + e) && (th_H th (7 * b + d) && decide (dv_K T G X Y t (7 * a + e) = dv_K T G X Y (fun i => i) (7 * b + d)))) (Q := fun d e => th_H th (7 * b + e) && (th_H th (7 * b + d) && decide (dv_K T G X Y (fun i => i) (7 * b + e) = dv_K T G X Y (fun i => i) (7 * b + d)))) A ht tl ha hb ?_ ?_ (fun h => h1 hn (key.mp h)) (fun h => h0 (fun z => h (key.mpr z.2))) 7 0 9 rfl (by decide) (fun c h => absurd h (Nat.not_lt_zero c))
      · intro d _ e _
        show (th_H th (7 * a + e) && (th_H th (7 * b + d) && decide (dv_K T G X Y t (7 * a + e) = dv_K T G X Y (fun i => i) (7 * b + d)))) = true ↔ _
        rw [Bool.and_eq_true, Bool.and_eq_true, decide_eq_true_iff, dv_K_iff A.2 tl]
      · intro d _ e _
        show (th_H th (7 * b + e) && (th_H th (7 * b + d) && decide (dv_K T G X Y (fun i => i) (7 * b + e) = dv_K T G X Y (fun i => i) (7 * b + d)))) = true ↔ _
        rw [Bool.and_eq_true, Bool.and_eq_true, decide_eq_true_iff, dv_K_iff A.2 idl]
    · exact zero (h0 (fun z => e (ref.mpr z.2).1))
  · exact yf_69 ha hb (br_t rfl (zero (h0 (fun z => hn z.1)))) 7 0 8 rfl (by decide)
end YSAME
