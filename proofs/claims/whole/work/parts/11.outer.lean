/-! what fits, for both sides -/
theorem fi_D_c {T G X Y t : Nat → Nat} {p p' q q' : Nat → Bool} {a b : Nat} (hp : ∀ d, d < 7 → p d = p' d) (hq : ∀ d, d < 7 → q d = q' d) : fi_D T G X Y p q a b t ↔ fi_D T G X Y p' q' a b t := by
  have e1 : ∀ z, pm_cnt p (fun d => dv_K T G X Y t (7 * a + d)) z 7 = pm_cnt p' (fun d => dv_K T G X Y t (7 * a + d)) z 7 := fun z => pm_cnt_congr 7 (fun d hd => ⟨hp d hd, rfl⟩)
  have e2 : ∀ z, pm_cnt q (fun d => dv_K T G X Y (fun i => i) (7 * b + d)) z 7 = pm_cnt q' (fun d => dv_K T G X Y (fun i => i) (7 * b + d)) z 7 := fun z => pm_cnt_congr 7 (fun d hd => ⟨hq d hd, rfl⟩)
  exact ⟨fun h z => by rw [← e1, ← e2]; exact h z, fun h z => by rw [e1, e2]; exact h z⟩
theorem ad_1 {x y : Int32} : x + 1 = y + 1 ↔ x = y := by
  constructor
  · intro h
    have h3 : x + 1 + (-1) = y + 1 + (-1) := by rw [h]
    rw [Int32.add_assoc, Int32.add_assoc, show (1 : Int32) + (-1) = 0 from rfl, Int32.add_zero, Int32.add_zero] at h3
    exact h3
  · intro h
    rw [h]
theorem fi_N_c {nm nn : Nat → Int32} {a b : Nat} {t : Nat → Nat} (hN : ∀ j, j < 12 → nn j = nm j + 1) (ha : a < 2) (hb : b < 2) (tl : ∀ i, i < 6 → t i < 6) : fi_N nn a b t ↔ fi_N nm a b t := by
  constructor
  · intro h i hi
    have h1 := h i hi
    have h2 := tl i hi
    rw [hN _ (by omega), hN _ (by omega)] at h1
    exact ad_1.mp h1
  · intro h i hi
    have h2 := tl i hi
    rw [hN _ (by omega), hN _ (by omega)]
    exact ad_1.mpr (h i hi)
noncomputable def rl_F (T G X Y : Nat → Nat) (H : Nat → Bool) (nn : Nat → Int32) (a b : Nat) : Nat → Bool := fun c => @decide (fi_N nn a b (nt_P c) ∧ fi_D T G X Y (fun d => H (7 * a + d)) (fun d => H (7 * b + d)) a b (nt_P c)) (Classical.propDecidable _)
theorem rl_F_iff {T G X Y : Nat → Nat} {H : Nat → Bool} {nn : Nat → Int32} {a b c : Nat} : rl_F T G X Y H nn a b c = true ↔ (fi_N nn a b (nt_P c) ∧ fi_D T G X Y (fun d => H (7 * a + d)) (fun d => H (7 * b + d)) a b (nt_P c)) := by
  unfold rl_F
  exact @decide_eq_true_iff _ (Classical.propDecidable _)
theorem rl_FY {T G X Y : Nat → Nat} {H : Nat → Bool} {th nn : Nat → Int32} {a b : Nat} (ha : a < 2) (hb : b < 2) (hH : ∀ j, j < 14 → th_H th j = H j) : rl_Y T G X Y th nn a b (rl_F T G X Y H nn a b) := by
  intro c hc
  rw [rl_F_iff, fi_D_c (p := fun d => H (7 * a + d)) (p' := fun d => th_H th (7 * a + d)) (q := fun d => H (7 * b + d)) (q' := fun d => th_H th (7 * b + d)) (fun d hd => (hH _ (by omega)).symm) (fun d hd => (hH _ (by omega)).symm)]
/-- F says of each assignment whether it fits, as the class sees it -/
def rl_X (T G X Y : Nat → Nat) (nm : Nat → Int32) (L R a b : Nat) (F : Nat → Bool) : Prop := ∀ c, c < 720 → (F c = true ↔ (fi_N nm a b (nt_P c) ∧ fi_D T G X Y (fun d => L.testBit d) (fun d => R.testBit d) a b (nt_P c)))
theorem rl_FX {T G X Y : Nat → Nat} {H : Nat → Bool} {nm nn : Nat → Int32} {a b L R : Nat} (ha : a < 2) (hb : b < 2) (hN : ∀ j, j < 12 → nn j = nm j + 1) (hp : ∀ d, d < 7 → L.testBit d = H (7 * a + d)) (hq : ∀ d, d < 7 → R.testBit d = H (7 * b + d)) : rl_X T G X Y nm L R a b (rl_F T G X Y H nn a b) := by
  intro c hc
  rw [rl_F_iff, fi_N_c hN ha hb (nt_lt c hc), fi_D_c (p := fun d => H (7 * a + d)) (p' := fun d => L.testBit d) (q := fun d => H (7 * b + d)) (q' := fun d => R.testBit d) (fun d hd => (hp d hd).symm) (fun d hd => (hq d hd).symm)]
/-! the class: its questions -/
section XOUT
variable {fd : Int32} {nm ty ga xs ys pr tr fm im : Nat → Int32} {T G X Y : Nat → Nat} {F : Nat → Bool} {L R : Nat}
theorem xl_match {post : Int32 → SX → Prop} (A : dv_A ty ga xs ys T G X Y) (hL : L < 128) (hR : R < 128) (e0 : pr 0 = nI L) (e1 : pr 1 = nI R) (hF : rl_X T G X Y nm L R 0 1 F)
    (h1 : 0 < pm_tot F 720 → ∀ (fd : Int32) (tr fm im : Nat → Int32), post 1 (fd, nm, ty, ga, xs, ys, pr, tr, fm, im)) (h0 : pm_tot F 720 = 0 → ∀ (fd : Int32) (tr fm im : Nat → Int32), post 0 (fd, nm, ty, ga, xs, ys, pr, tr, fm, im)) : wpX_match post (fd, nm, ty, ga, xs, ys, pr, tr, fm, im) := by
  unfold wpX_match
  dsimp only
  rw [e0]
  refine xw_survey (a := 0) (b := 1) A (by decide) (by decide) hL hR e1 hF (fun fd tr fm im z1 _ _ => ?_)
  have l := pm_tot_le F 720
  exact pk_le (pm_tot F 720) 0 (fun h => h0 (by omega) fd tr fm im) (fun h => h1 h fd tr fm im) z1 rfl (by omega) (by omega)
theorem xl_assigned {post : Int32 → SX → Prop} {i : Nat} (hi : i < 6) (A : dv_A ty ga xs ys T G X Y) (hL : L < 128) (hR : R < 128) (e0 : pr 0 = nI L) (e1 : pr 1 = nI R) (hF : rl_X T G X Y nm L R 0 1 F)
    (h1 : ∀ c, pf_fs F c 720 → ∀ (fd : Int32) (tr fm im : Nat → Int32), post (nI (nt_P c i)) (fd, nm, ty, ga, xs, ys, pr, tr, fm, im)) (h0 : pm_tot F 720 = 0 → ∀ (fd : Int32) (tr fm im : Nat → Int32), post (-1) (fd, nm, ty, ga, xs, ys, pr, tr, fm, im)) : wpX_assigned post (fd, nm, ty, ga, xs, ys, pr, tr, fm, im) (nI i) := by
  unfold wpX_assigned
  dsimp only
  rw [e0]
  refine ne_X hi (br_f (by decide) (xw_survey (a := 0) (b := 1) A (by decide) (by decide) hL hR e1 hF (fun fd tr fm im z1 z2 _ => ?_)))
  have l := pm_tot_le F 720
  refine pk_le (pm_tot F 720) 0 (fun h => h0 (by omega) fd tr fm im) (fun h => ⟨vp_in_nI hi (by decide), ?_⟩) z1 rfl (by omega) (by omega)
  obtain ⟨c, w1, w2⟩ := z2 h
  dsimp only
  rw [cm_at (by omega) (w2 i hi)]
  exact h1 c w1 fd tr fm im
theorem xl_matches {post : Int32 → SX → Prop} (A : dv_A ty ga xs ys T G X Y) (hL : L < 128) (hR : R < 128) (e0 : pr 0 = nI L) (e1 : pr 1 = nI R) (hF : rl_X T G X Y nm L R 0 1 F)
    (h : ∀ (fd : Int32) (tr fm im : Nat → Int32), post (nI (pm_tot F 720)) (fd, nm, ty, ga, xs, ys, pr, tr, fm, im)) : wpX_matches post (fd, nm, ty, ga, xs, ys, pr, tr, fm, im) := by
  unfold wpX_matches
  dsimp only
  rw [e0]
  refine xw_survey (a := 0) (b := 1) A (by decide) (by decide) hL hR e1 hF (fun fd tr fm im z1 _ _ => ?_)
  subst z1
  exact h _ tr fm im
theorem xl_cand {post : Int32 → SX → Prop} {i : Nat} (hi : i < 6) (A : dv_A ty ga xs ys T G X Y) (hL : L < 128) (hR : R < 128) (e0 : pr 0 = nI L) (e1 : pr 1 = nI R) (hF : rl_X T G X Y nm L R 0 1 F)
    (h : ∀ (fd : Int32) (tr fm im : Nat → Int32), post (nI (pf_im F i 720)) (fd, nm, ty, ga, xs, ys, pr, tr, fm, im)) : wpX_candidates post (fd, nm, ty, ga, xs, ys, pr, tr, fm, im) (nI i) := by
  unfold wpX_candidates
  dsimp only
  rw [e0]
  refine ne_X hi (br_f (by decide) (xw_survey (a := 0) (b := 1) A (by decide) (by decide) hL hR e1 hF (fun fd tr fm im _ _ z3 => ⟨vp_in_nI hi (by decide), ?_⟩)))
  dsimp only
  rw [cm_at (by omega) (z3 i hi)]
  exact h fd tr fm im
theorem xl_sym {post : Int32 → SX → Prop} {a : Nat} (ha : a < 2) (A : dv_A ty ga xs ys T G X Y) (hL : L < 128) (e0 : pr a = nI L) (hF : rl_X T G X Y nm L L a a F)
    (h : ∀ (fd : Int32) (tr fm im : Nat → Int32), post (nI (pm_tot F 720)) (fd, nm, ty, ga, xs, ys, pr, tr, fm, im)) : wpX_symmetries post (fd, nm, ty, ga, xs, ys, pr, tr, fm, im) (nI a) := by
  unfold wpX_symmetries
  dsimp only
  rw [cm_at (by omega) e0]
  refine ci_X ha (br_f (by decide) ⟨vp_in_nI ha (by decide), xw_survey A ha ha hL hL e0 hF (fun fd tr fm im z1 _ _ => ?_)⟩)
  subst z1
  exact h _ tr fm im
theorem xl_exch {post : Int32 → SX → Prop} {a i j : Nat} (ha : a < 2) (hi : i < 6) (hj : j < 6) (A : dv_A ty ga xs ys T G X Y) (hL : L < 128) (e0 : pr a = nI L) (hF : rl_X T G X Y nm L L a a F)
    (h1 : (∃ c, c < 720 ∧ F c = true ∧ nt_P c i = j) → ∀ (fd : Int32) (tr fm im : Nat → Int32), post 1 (fd, nm, ty, ga, xs, ys, pr, tr, fm, im))
    (h0 : ¬ (∃ c, c < 720 ∧ F c = true ∧ nt_P c i = j) → ∀ (fd : Int32) (tr fm im : Nat → Int32), post 0 (fd, nm, ty, ga, xs, ys, pr, tr, fm, im)) : wpX_exchangeable post (fd, nm, ty, ga, xs, ys, pr, tr, fm, im) (nI a) (nI i) (nI j) := by
  unfold wpX_exchangeable
  dsimp only
  rw [cm_at (by omega) e0]
  refine ci_X ha (br_f (by decide) (ne_X hi (br_f (by decide) (ne_X hj (br_f (by decide) ⟨vp_in_nI ha (by decide), xw_survey A ha ha hL hL e0 hF (fun fd tr fm im _ _ z3 => ⟨vp_in_nI hi (by decide), ?_⟩)⟩)))))
  have im_T := pf_im_T (F := F) (j := j) hi (by omega) 720 (Nat.le_refl 720)
  dsimp only
  rw [cm_at (by omega) (z3 i hi)]
  exact hb_X (pf_im_lt hi 720 (Nat.le_refl 720)) (by omega) (fun z => ⟨rfl, h1 (im_T.mp z) fd tr fm im⟩) (fun z => ⟨rfl, h0 (fun w => th_cl z (im_T.mpr w)) fd tr fm im⟩)
theorem xl_surp2 {post : Int32 → SX → Prop} {FF : Nat → Nat → Bool} {H : Nat → Bool} (A : dv_A ty ga xs ys T G X Y) (hL : L < 128) (hR : R < 128) (e0 : pr 0 = nI L) (e1 : pr 1 = nI R)
    (hH : ∀ d, d < 7 → L.testBit d = H d)
    (hF : ∀ d, d < 7 → rl_X T G X Y nm (bs_clr L d) R 0 1 (FF d))
    (h : ∀ (fd : Int32) (tr fm im : Nat → Int32), post (sl_L (fun d => H d && decide (0 < pm_tot (FF d) 720)) 7 0) (fd, nm, ty, ga, xs, ys, pr, tr, fm, im)) :
    ∀ f k m (fd : Int32) (tr fm im : Nat → Int32), k + f = 7 → f < m → sl_L (fun d => H d && decide (0 < pm_tot (FF d) 720)) 7 0 = sl_L (fun d => H d && decide (0 < pm_tot (FF d) 720)) f k → wX_surplus_2 post m (nI k) fd nm ty ga xs ys pr tr fm im := by
  intro f
  induction f with
  | zero =>
    intro k m fd tr fm im hk hm hs
    obtain ⟨m, rfl⟩ : ∃ j, m = j + 1 := ⟨m - 1, by omega⟩
    have e : k = 7 := by omega
    have h2 := h fd tr fm im
    rw [hs] at h2
    rw [e]
    exact br_t (by decide) h2
  | succ f ih =>
    intro k m fd tr fm im hk hm hs
    obtain ⟨m, rfl⟩ : ∃ j, m = j + 1 := ⟨m - 1, by omega⟩
    have k7 : k < 7 := by omega
    have sl : sl_L (fun d => H d && decide (0 < pm_tot (FF d) 720)) (f + 1) k = (if (H k && decide (0 < pm_tot (FF k) 720)) = true then nI k else sl_L (fun d => H d && decide (0 < pm_tot (FF d) 720)) f (k + 1)) := rfl
    have l := pm_tot_le (FF k) 720
    have c := bs_clrI L hL k k7
    refine br_f (nI_ge (b := 7) k7 (by decide)) ?_
    rw [e0]
    refine hb_X hL k7 (fun hbit => br_f (by decide) ?_) (fun hbit => br_t rfl (nm_r (nI_1 k) (ih (k + 1) m fd tr fm im (by omega) (by omega) ?_)))
    · rw [hH k k7] at hbit
      rw [c.1]
      refine xw_survey (a := 0) (b := 1) A (by decide) (by decide) c.2 hR e1 (hF k k7) (fun fd tr fm im z1 _ _ => ?_)
      refine pk_le (pm_tot (FF k) 720) 0 (fun w => nm_r (nI_1 k) (ih (k + 1) m fd tr fm im (by omega) (by omega) ?_)) (fun w => ?_) z1 rfl (by omega) (by omega)
      · rw [hs, sl, hbit, decide_eq_false (by omega), if_neg (by decide)]
      · have h2 := h fd tr fm im
        rw [hs, sl, hbit, decide_eq_true w, if_pos (by decide)] at h2
        exact h2
    · rw [hH k k7] at hbit
      rw [hs, sl, hbit, Bool.false_and, if_neg (by decide)]
theorem xl_surp {post : Int32 → SX → Prop} {FF : Nat → Nat → Bool} {H : Nat → Bool} (A : dv_A ty ga xs ys T G X Y) (hL : L < 128) (hR : R < 128) (e0 : pr 0 = nI L) (e1 : pr 1 = nI R)
    (hH : ∀ d, d < 7 → L.testBit d = H d)
    (hF : ∀ d, d < 7 → rl_X T G X Y nm (bs_clr L d) R 0 1 (FF d))
    (h : ∀ (fd : Int32) (tr fm im : Nat → Int32), post (sl_L (fun d => H d && decide (0 < pm_tot (FF d) 720)) 7 0) (fd, nm, ty, ga, xs, ys, pr, tr, fm, im)) : wpX_surplus post (fd, nm, ty, ga, xs, ys, pr, tr, fm, im) :=
  ⟨8, xl_surp2 A hL hR e0 e1 hH hF h 7 0 8 fd tr fm im rfl (by decide) rfl⟩
/-! the class: free numbers, degree -/
theorem xl_free2 {post : Int32 → Prop} {c M : Nat} (hc : c < 2) (hM : M < 128) (e : pr c = nI M)
    (h1 : ∀ d, d < 7 → (∀ j, j < d → M.testBit j = true) → M.testBit d = false → post (nI d)) (h0 : (∀ j, j < 7 → M.testBit j = true) → post (-1)) :
    ∀ f d m, d + f = 7 → f < m → (∀ j, j < d → M.testBit j = true) → wX_leastFreeDevice_2 post (nI c) fd nm ty ga xs ys pr tr fm im m (nI d) := by
  intro f
  induction f with
  | zero =>
    intro d m hd hm hE
    obtain ⟨m, rfl⟩ : ∃ j, m = j + 1 := ⟨m - 1, by omega⟩
    have e7 : d = 7 := by omega
    rw [e7] at hE ⊢
    exact br_t (by decide) (h0 hE)
  | succ f ih =>
    intro d m hd hm hE
    obtain ⟨m, rfl⟩ : ∃ j, m = j + 1 := ⟨m - 1, by omega⟩
    have d7 : d < 7 := by omega
    refine br_f (nI_ge (b := 7) d7 (by decide)) ⟨vp_in_nI hc (by decide), ?_⟩
    rw [cm_at (by omega) e]
    refine hb_X hM d7 (fun hbit => br_f (by decide) (nm_r (nI_1 d) (ih (d + 1) m (by omega) (by omega) (fun j hj => ?_)))) (fun hbit => br_t rfl (h1 d d7 hE hbit))
    rcases Nat.lt_or_ge j d with z | z
    · exact hE j z
    · have e2 : j = d := by omega
      rw [e2]
      exact hbit
theorem xl_free {post : Int32 → Prop} {c M : Nat} (hc : c < 2) (hM : M < 128) (e : pr c = nI M)
    (h1 : ∀ d, d < 7 → (∀ j, j < d → M.testBit j = true) → M.testBit d = false → post (nI d)) (h0 : (∀ j, j < 7 → M.testBit j = true) → post (-1)) : wpX_leastFreeDevice post (fd, nm, ty, ga, xs, ys, pr, tr, fm, im) (nI c) :=
  ⟨8, xl_free2 hc hM e h1 h0 7 0 8 rfl (by decide) (fun j h => absurd h (Nat.not_lt_zero j))⟩
def dg_w (T G X Y : Nat → Nat) (l i : Nat) : Nat := (if T l ≠ 2 ∧ G l = i then 1 else 0) + (if X l = i then 1 else 0) + (if Y l = i then 1 else 0)
def dg_s (T G X Y : Nat → Nat) (H : Nat → Bool) (c i : Nat) : Nat → Nat
  | 0 => 0
  | n + 1 => dg_s T G X Y H c i n + (if H (7 * c + n) = true then dg_w T G X Y (7 * c + n) i else 0)
theorem xl_38 {post : Int32 → Prop} {l i v : Nat} (A : dv_A ty ga xs ys T G X Y) (hl : l < 14) (hi : i < 6) (h : post (nI (v + (if Y l = i then 1 else 0)))) : wX_touches_38 post (nI l) (nI i) (nI v) fd nm ty ga xs ys pr tr fm im := by
  refine ⟨vp_in_nI hl (by decide), ek_if (cm_eq (dv_Y A (by omega)) rfl (dv_bY A l) (by omega)) (fun e => ?_) (fun e => ?_)⟩
  · rw [if_pos e] at h
    exact nm_r (nI_1 v) h
  · rw [if_neg e] at h
    exact h
theorem xl_25 {post : Int32 → Prop} {l i v : Nat} (A : dv_A ty ga xs ys T G X Y) (hl : l < 14) (hi : i < 6) (h : post (nI (v + (if X l = i then 1 else 0) + (if Y l = i then 1 else 0)))) : wX_touches_25 post (nI l) (nI i) (nI v) fd nm ty ga xs ys pr tr fm im := by
  refine ⟨vp_in_nI hl (by decide), ek_if (cm_eq (dv_X A (by omega)) rfl (dv_bX A l) (by omega)) (fun e => ?_) (fun e => ?_)⟩
  · rw [if_pos e] at h
    exact nm_r (nI_1 v) (xl_38 A hl hi h)
  · rw [if_neg e] at h
    exact xl_38 A hl hi h
theorem xl_touches {post : Int32 → Prop} {l i : Nat} (A : dv_A ty ga xs ys T G X Y) (hl : l < 14) (hi : i < 6) (h : post (nI (dg_w T G X Y l i))) : wpX_touches post (fd, nm, ty, ga, xs, ys, pr, tr, fm, im) (nI l) (nI i) := by
  unfold dg_w at h
  refine ⟨vp_in_nI hl (by decide), ek_if (cm_eq (q := 2) (dv_T A (by omega)) rfl (dv_bT A l) (by decide)) (fun e => ?_) (fun e => ⟨vp_in_nI hl (by decide), ek_if (cm_eq (dv_G A (by omega)) rfl (dv_bG A l) (by omega)) (fun g => ?_) (fun g => ?_)⟩)⟩
  · rw [if_neg (fun z => z.1 e)] at h
    exact xl_25 (v := 0) A hl hi h
  · rw [if_pos ⟨e, g⟩] at h
    exact nm_r (e' := nI 1) (by decide) (xl_25 A hl hi h)
  · rw [if_neg (fun z => g z.2)] at h
    exact xl_25 (v := 0) A hl hi h
theorem xl_deg21 {post : Int32 → Prop} {c i M : Nat} {H : Nat → Bool} (A : dv_A ty ga xs ys T G X Y) (hc : c < 2) (hi : i < 6) (hM : M < 128) (e : pr c = nI M) (hH : ∀ d, d < 7 → M.testBit d = H (7 * c + d))
    (h : post (nI (dg_s T G X Y H c i 7))) : ∀ f d m, d + f = 7 → f < m → wX_degree_21 post (nI c) (nI i) fd nm ty ga xs ys pr tr fm im m (nI (dg_s T G X Y H c i d)) (nI d) := by
  intro f
  induction f with
  | zero =>
    intro d m hd hm
    obtain ⟨m, rfl⟩ : ∃ j, m = j + 1 := ⟨m - 1, by omega⟩
    have e7 : d = 7 := by omega
    rw [e7]
    exact br_t (by decide) h
  | succ f ih =>
    intro d m hd hm
    obtain ⟨m, rfl⟩ : ∃ j, m = j + 1 := ⟨m - 1, by omega⟩
    have d7 : d < 7 := by omega
    refine br_f (nI_ge (b := 7) d7 (by decide)) ⟨vp_in_nI hc (by decide), ?_⟩
    rw [cm_at (by omega) e, ix_7]
    refine hb_X hM d7 (fun hbit => br_f (by decide) (xl_touches A (by omega) hi (nm_r (nI_add _ _) (nm_r (nI_1 d) ?_)))) (fun hbit => br_t rfl (nm_r (nI_1 d) ?_))
    · rw [hH d d7] at hbit
      have e1 : dg_s T G X Y H c i (d + 1) = dg_s T G X Y H c i d + dg_w T G X Y (7 * c + d) i := by
        simp only [dg_s]
        rw [if_pos hbit]
      rw [← e1]
      exact ih (d + 1) m (by omega) (by omega)
    · rw [hH d d7] at hbit
      have e1 : dg_s T G X Y H c i (d + 1) = dg_s T G X Y H c i d := by
        simp only [dg_s]
        rw [if_neg (th_cl hbit)]
        rfl
      rw [← e1]
      exact ih (d + 1) m (by omega) (by omega)
theorem xl_deg {post : Int32 → Prop} {c i M : Nat} {H : Nat → Bool} (A : dv_A ty ga xs ys T G X Y) (hc : c < 2) (hi : i < 6) (hM : M < 128) (e : pr c = nI M) (hH : ∀ d, d < 7 → M.testBit d = H (7 * c + d))
    (h : post (nI (dg_s T G X Y H c i 7))) : wpX_degree post (fd, nm, ty, ga, xs, ys, pr, tr, fm, im) (nI c) (nI i) := by
  unfold wpX_degree
  exact ci_X hc (br_f (by decide) (ne_X hi (br_f (by decide) ⟨8, xl_deg21 A hc hi hM e hH h 7 0 8 rfl (by decide)⟩)))
end XOUT
/-! the reference: degree, devices, a free place -/
section YOUT
variable {th ty ga xs ys nn to : Nat → Int32} {T G X Y : Nat → Nat}
theorem yd_83 {post : Int32 → Prop} {J : Int32 → Int32 → Prop} {x1 : Int32} {l i d p q : Nat} (A : dv_A ty ga xs ys T G X Y) (hl : l < 14) (hi : i < 6)
    (h : J (nI (p + q + (if T l ≠ 2 ∧ G l = i then 1 else 0))) (nI (d + 1))) : wY_degree_83 post J x1 (nI i) (nI d) (nI l) (nI q) (nI p) th ty ga xs ys nn to := by
  refine ⟨vp_in_nI hl (by decide), ek_if (cm_eq (q := 2) (dv_T A (by omega)) rfl (dv_bT A l) (by decide)) (fun e => ?_) (fun e => ⟨vp_in_nI hl (by decide), ek_if (cm_eq (dv_G A (by omega)) rfl (dv_bG A l) (by omega)) (fun g => ?_) (fun g => ?_)⟩)⟩
  · rw [if_neg (fun z => z.1 e)] at h
    exact nm_r (by rw [nI_add, Int32.add_zero]; rfl) (nm_r (nI_1 d) h)
  · rw [if_pos ⟨e, g⟩] at h
    exact nm_r (by rw [nI_add, nI_1]) (nm_r (nI_1 d) h)
  · rw [if_neg (fun z => g z.2)] at h
    exact nm_r (by rw [nI_add, Int32.add_zero]; rfl) (nm_r (nI_1 d) h)
theorem yd_66 {post : Int32 → Prop} {J : Int32 → Int32 → Prop} {x1 : Int32} {l i d p q : Nat} (A : dv_A ty ga xs ys T G X Y) (hl : l < 14) (hi : i < 6)
    (h : J (nI (p + q + (if Y l = i then 1 else 0) + (if T l ≠ 2 ∧ G l = i then 1 else 0))) (nI (d + 1))) : wY_degree_66 post J x1 (nI i) (nI d) (nI l) (nI q) (nI p) th ty ga xs ys nn to := by
  unfold wY_degree_66
  rw [nI_add]
  refine ⟨vp_in_nI hl (by decide), ek_if (cm_eq (dv_Y A (by omega)) rfl (dv_bY A l) (by omega)) (fun e => ?_) (fun e => ?_)⟩
  · rw [if_pos e] at h
    exact yd_83 (q := 1) A hl hi h
  · rw [if_neg e] at h
    exact yd_83 (q := 0) A hl hi h
theorem yd_23 {post : Int32 → Prop} {c i : Nat} {H : Nat → Bool} (A : dv_A ty ga xs ys T G X Y) (hc : c < 2) (hi : i < 6) (hH : ∀ j, j < 14 → th_H th j = H j)
    (h : post (nI (dg_s T G X Y H c i 7))) : ∀ f d m, d + f = 7 → f < m → wY_degree_23 post (nI c) (nI i) th ty ga xs ys nn to m (nI (dg_s T G X Y H c i d)) (nI d) := by
  intro f
  induction f with
  | zero =>
    intro d m hd hm
    obtain ⟨m, rfl⟩ : ∃ j, m = j + 1 := ⟨m - 1, by omega⟩
    have e7 : d = 7 := by omega
    rw [e7]
    exact br_t (by decide) h
  | succ f ih =>
    intro d m hd hm
    obtain ⟨m, rfl⟩ : ∃ j, m = j + 1 := ⟨m - 1, by omega⟩
    have d7 : d < 7 := by omega
    have l14 : 7 * c + d < 14 := by omega
    have il : vp_in (nI (7 * c + d)) 14 := vp_in_nI l14 (by decide)
    refine br_f (nI_ge (b := 7) d7 (by decide)) (nm_r (ix_7' c d) ⟨il, ek_if (th_f (by omega)) (fun e => nm_r (nI_1 d) ?_) (fun e => ⟨il, ?_⟩)⟩)
    · rw [hH _ l14] at e
      have e1 : dg_s T G X Y H c i (d + 1) = dg_s T G X Y H c i d := by
        simp only [dg_s]
        rw [if_neg (th_cl e)]
        rfl
      rw [← e1]
      exact ih (d + 1) m (by omega) (by omega)
    · rw [hH _ l14] at e
      have e1 : dg_s T G X Y H c i (d + 1) = dg_s T G X Y H c i d + (if X (7 * c + d) = i then 1 else 0) + (if Y (7 * c + d) = i then 1 else 0) + (if T (7 * c + d) ≠ 2 ∧ G (7 * c + d) = i then 1 else 0) := by
        simp only [dg_s, dg_w]
        rw [if_pos (th_nf e)]
        omega
      have k := ih (d + 1) m (by omega) (by omega)
      rw [e1] at k
      refine ek_if (cm_eq (dv_X A (by omega)) rfl (dv_bX A _) (by omega)) (fun z => ?_) (fun z => ?_)
      · rw [if_pos z] at k
        exact yd_66 (q := 1) A l14 hi k
      · rw [if_neg z] at k
        exact yd_66 (q := 0) A l14 hi k
theorem yl_deg {post : Int32 → Prop} {c i : Nat} {H : Nat → Bool} (A : dv_A ty ga xs ys T G X Y) (hc : c < 2) (hi : i < 6) (hH : ∀ j, j < 14 → th_H th j = H j)
    (h : post (nI (dg_s T G X Y H c i 7))) : wpY_degree post (th, ty, ga, xs, ys, nn, to) (nI c) (nI i) := by
  unfold wpY_degree
  exact ci_Y hc (br_f (by decide) (ne_Y hi (br_f (by decide) ⟨8, yd_23 A hc hi hH h 7 0 8 rfl (by decide)⟩)))
def dm_m (H : Nat → Bool) (c : Nat) : Nat → Nat
  | 0 => 0
  | n + 1 => if H (7 * c + n) = true then dm_m H c n ||| 2 ^ n else dm_m H c n
theorem dm_lt {H : Nat → Bool} {c : Nat} : ∀ n, n ≤ 7 → dm_m H c n < 128 := by
  intro n
  induction n with
  | zero => intro _; exact (by decide : 0 < 128)
  | succ n ih =>
    intro h
    have h1 := ih (by omega)
    simp only [dm_m]
    by_cases z : H (7 * c + n) = true
    · rw [if_pos z]
      exact (bs_set _ h1 n (by omega)).2
    · rw [if_neg z]
      exact h1
theorem dm_T {H : Nat → Bool} {c j : Nat} (hj : j < 7) : ∀ n, n ≤ 7 → (dm_m H c n).testBit j = (decide (j < n) && H (7 * c + j)) := by
  intro n
  induction n with
  | zero =>
    intro _
    simp [dm_m]
  | succ n ih =>
    intro h
    have h1 := ih (by omega)
    have h2 := dm_lt (H := H) (c := c) n (by omega)
    simp only [dm_m]
    by_cases z : H (7 * c + n) = true
    · rw [if_pos z, bs_setT _ h2 n (by omega) j hj, h1]
      by_cases w : j = n
      · rw [w, z, decide_eq_true (show n < n + 1 by omega)]
        simp
      · have e1 : (j == n) = false := by rw [beq_eq_false_iff_ne]; exact w
        rw [e1, Bool.or_false]
        by_cases v : j < n
        · rw [decide_eq_true v, decide_eq_true (show j < n + 1 by omega)]
        · rw [decide_eq_false v, decide_eq_false (show ¬ j < n + 1 by omega)]
    · rw [if_neg z, h1]
      by_cases w : j = n
      · rw [w, th_nt z]
        simp
      · by_cases v : j < n
        · rw [decide_eq_true v, decide_eq_true (show j < n + 1 by omega)]
        · rw [decide_eq_false v, decide_eq_false (show ¬ j < n + 1 by omega)]
theorem yl_dev4 {post : Int32 → Prop} {c : Nat} {H : Nat → Bool} (hc : c < 2) (hH : ∀ j, j < 14 → th_H th j = H j) (h : post (nI (dm_m H c 7))) : ∀ f d m, d + f = 7 → f < m → wY_devices_4 post (nI c) th ty ga xs ys nn to m (nI (dm_m H c d)) (nI d) := by
  intro f
  induction f with
  | zero =>
    intro d m hd hm
    obtain ⟨m, rfl⟩ : ∃ j, m = j + 1 := ⟨m - 1, by omega⟩
    have e7 : d = 7 := by omega
    rw [e7]
    exact br_t (by decide) h
  | succ f ih =>
    intro d m hd hm
    obtain ⟨m, rfl⟩ : ∃ j, m = j + 1 := ⟨m - 1, by omega⟩
    have d7 : d < 7 := by omega
    have l14 : 7 * c + d < 14 := by omega
    refine br_f (nI_ge (b := 7) d7 (by decide)) (ci_Y hc (br_f (by decide) ?_))
    rw [ix_7']
    refine ⟨vp_in_nI l14 (by decide), ek_if (th_f (by omega)) (fun e => nm_r (nI_1 d) ?_) (fun e => nm_r (e' := nI (dm_m H c (d + 1))) ?_ (nm_r (nI_1 d) (ih (d + 1) m (by omega) (by omega))))⟩
    · rw [hH _ l14] at e
      have e1 : dm_m H c (d + 1) = dm_m H c d := by
        simp only [dm_m]
        rw [if_neg (th_cl e)]
      rw [← e1]
      exact ih (d + 1) m (by omega) (by omega)
    · rw [hH _ l14] at e
      rw [(bs_set _ (dm_lt d (by omega)) d d7).1]
      simp only [dm_m]
      rw [if_pos (th_nf e)]
theorem yl_dev {post : Int32 → Prop} {c : Nat} {H : Nat → Bool} (hc : c < 2) (hH : ∀ j, j < 14 → th_H th j = H j) (h : post (nI (dm_m H c 7))) : wpY_devices post (th, ty, ga, xs, ys, nn, to) (nI c) :=
  ⟨8, yl_dev4 hc hH h 7 0 8 rfl (by decide)⟩
theorem ya_57f {post : Int32 → SY → Prop} {c : Nat} {x2 x3 : Int32} (hc : c < 2) (hH : ∀ d, d < 7 → th_H th (7 * c + d) = true) (h : post (-2) (th, ty, ga, xs, ys, nn, to)) : ∀ f d m, d + f = 7 → f < m → wY_add_57 post (nI c) x2 x3 th ty ga xs ys nn to m (nI d) := by
  intro f
  induction f with
  | zero =>
    intro d m hd hm
    obtain ⟨m, rfl⟩ : ∃ j, m = j + 1 := ⟨m - 1, by omega⟩
    have e7 : d = 7 := by omega
    rw [e7]
    exact br_t (by decide) h
  | succ f ih =>
    intro d m hd hm
    obtain ⟨m, rfl⟩ : ∃ j, m = j + 1 := ⟨m - 1, by omega⟩
    have d7 : d < 7 := by omega
    have l14 : 7 * c + d < 14 := by omega
    exact br_f (nI_ge (b := 7) d7 (by decide)) (nm_r (ix_7' c d) ⟨vp_in_nI l14 (by decide), ek_if (th_f (by omega)) (fun e => absurd (hH d d7) (th_cl e)) (fun _ => nm_r (nI_1 d) (ih (d + 1) m (by omega) (by omega)))⟩)
theorem ya_57 {post : Int32 → SY → Prop} {c e : Nat} {x2 x3 : Int32} (hc : c < 2) (he : e < 7) (hH : ∀ d, d < e → th_H th (7 * c + d) = true) (hE : th_H th (7 * c + e) = false)
    (h : post (nI e) (upd th (7 * c + e) 1, upd ty (7 * c + e) x2, upd ga (7 * c + e) (x3 &&& 7), upd xs (7 * c + e) ((x3 >>> ((3 : Int32) &&& 31)) &&& 7), upd ys (7 * c + e) (x3 >>> ((6 : Int32) &&& 31)), nn, to)) : ∀ f d m, d + f = e → f < m → wY_add_57 post (nI c) x2 x3 th ty ga xs ys nn to m (nI d) := by
  intro f
  induction f with
  | zero =>
    intro d m hd hm
    obtain ⟨m, rfl⟩ : ∃ j, m = j + 1 := ⟨m - 1, by omega⟩
    have e7 : d = e := by omega
    have l14 : 7 * c + e < 14 := by omega
    have il : vp_in (nI (7 * c + e)) 14 := vp_in_nI l14 (by decide)
    have ec : (nI (7 * c + e)).toNatClampNeg = 7 * c + e := nI_clamp (by omega)
    rw [e7]
    refine br_f (nI_ge (b := 7) he (by decide)) (nm_r (ix_7' c e) ⟨il, ek_if (th_f (by omega)) (fun _ => ?_) (fun z => absurd hE z)⟩)
    rw [ec]
    exact ⟨il, nm_r (e' := upd th (7 * c + e) 1) (by rw [sp_v1]) ⟨il, nm_e ⟨il, nm_e ⟨il, nm_e ⟨il, nm_e h⟩⟩⟩⟩⟩
  | succ f ih =>
    intro d m hd hm
    obtain ⟨m, rfl⟩ : ∃ j, m = j + 1 := ⟨m - 1, by omega⟩
    have d7 : d < 7 := by omega
    have l14 : 7 * c + d < 14 := by omega
    exact br_f (nI_ge (b := 7) d7 (by decide)) (nm_r (ix_7' c d) ⟨vp_in_nI l14 (by decide), ek_if (th_f (by omega)) (fun z => absurd (hH d (by omega)) (th_cl z)) (fun _ => nm_r (nI_1 d) (ih (d + 1) m (by omega) (by omega)))⟩)
end YOUT
