/-! the class: the survey over all assignments -/
section XSURV
variable {fd : Int32} {nm ty ga xs ys pr tr fm im : Nat → Int32} {T G X Y : Nat → Nat}
theorem xs_7 {post : SX → Prop} (hp : ∀ tr im : Nat → Int32, (∀ i, i < 6 → tr i = nI i) → (∀ i, i < 6 → im i = 0) → post (fd, nm, ty, ga, xs, ys, pr, tr, fm, im)) : ∀ f k m (tr im : Nat → Int32), k + f = 6 → f < m → (∀ i, i < k → tr i = nI i) → (∀ i, i < k → im i = 0) → wX_startSurvey_7 post fd m (nI k) nm ty ga xs ys pr tr fm im := by
  intro f
  induction f with
  | zero =>
    intro k m tr im hk hm h1 h2
    obtain ⟨m, rfl⟩ : ∃ j, m = j + 1 := ⟨m - 1, by omega⟩
    have e : k = 6 := by omega
    rw [e] at h1 h2 ⊢
    exact br_t (by decide) (hp tr im h1 h2)
  | succ f ih =>
    intro k m tr im hk hm h1 h2
    obtain ⟨m, rfl⟩ : ∃ j, m = j + 1 := ⟨m - 1, by omega⟩
    have k6 : k < 6 := by omega
    have ik : vp_in (nI k) 6 := vp_in_nI k6 (by decide)
    have ec : (nI k).toNatClampNeg = k := nI_clamp (by omega)
    refine br_f (nI_ge (b := 6) k6 (by decide)) ⟨ik, nm_r (e' := upd im k 0) (by rw [ec]) ⟨ik, nm_r (e' := upd tr k (nI k)) (by rw [ec]) (nm_r (nI_1 k) (ih (k + 1) m _ _ (by omega) (by omega) (fun i hi => ?_) (fun i hi => ?_)))⟩⟩
    · rcases Nat.lt_or_ge i k with z | z
      · rw [pk_un (by omega)]
        exact h1 i z
      · have e : i = k := by omega
        rw [e, pk_us]
    · rcases Nat.lt_or_ge i k with z | z
      · rw [pk_un (by omega)]
        exact h2 i z
      · have e : i = k := by omega
        rw [e, pk_us]
theorem xw_start {post : SX → Prop} (hp : ∀ (fd : Int32) (tr im : Nat → Int32), fd = 0 → (∀ i, i < 6 → tr i = nI i) → (∀ i, i < 6 → im i = 0) → post (fd, nm, ty, ga, xs, ys, pr, tr, fm, im)) : wpX_startSurvey post (fd, nm, ty, ga, xs, ys, pr, tr, fm, im) :=
  ⟨7, xs_7 (fd := 0) (fun tr im h1 h2 => hp 0 tr im rfl h1 h2) 6 0 7 tr im rfl (by decide) (fun i h => absurd h (Nat.not_lt_zero i)) (fun i h => absurd h (Nat.not_lt_zero i))⟩
theorem xr_27 {J : Int32 → (Nat → Int32) → (Nat → Int32) → (Nat → Int32) → (Nat → Int32) → (Nat → Int32) → (Nat → Int32) → (Nat → Int32) → (Nat → Int32) → (Nat → Int32) → Prop} {post : SX → Prop} {k t m : Nat} (hk : k < 6) (ht : tr k = nI t) (tl : t < 6) (hm : im k = nI m) (ml : m < 128)
    (h : J (nI (k + 1)) nm ty ga xs ys pr tr fm (upd im k (nI (m ||| 2 ^ t)))) : wX_recordMatch_27 post J (nI k) fd nm ty ga xs ys pr tr fm im := by
  have ik : vp_in (nI k) 6 := vp_in_nI hk (by decide)
  have ec : (nI k).toNatClampNeg = k := nI_clamp (by omega)
  exact ⟨ik, ik, ik, nm_r (e' := upd im k (nI (m ||| 2 ^ t))) (by rw [ec, ht, hm, (bs_set m ml t (by omega)).1]) (nm_r (nI_1 k) h)⟩
theorem xr_2 {post : SX → Prop} {t mj : Nat → Nat} {f : Nat} {fm0 : Nat → Int32} (hf : f < 1000) (ht : ∀ i, i < 6 → tr i = nI (t i)) (tl : ∀ i, i < 6 → t i < 6) (ml : ∀ i, i < 6 → mj i < 128)
    (hp : ∀ fm im : Nat → Int32, (f = 0 → ∀ i, i < 6 → fm i = nI (t i)) → (f ≠ 0 → fm = fm0) → (∀ i, i < 6 → im i = nI (mj i ||| 2 ^ t i)) → post (nI (f + 1), nm, ty, ga, xs, ys, pr, tr, fm, im)) :
    ∀ g k m (fm im : Nat → Int32), k + g = 6 → g < m → (f = 0 → ∀ i, i < k → fm i = nI (t i)) → (f ≠ 0 → fm = fm0) → (∀ i, i < k → im i = nI (mj i ||| 2 ^ t i)) → (∀ i, i < 6 → k ≤ i → im i = nI (mj i)) → wX_recordMatch_2 post (nI f) m (nI k) nm ty ga xs ys pr tr fm im := by
  intro g
  induction g with
  | zero =>
    intro k m fm im hk hm h1 h2 h3 h4
    obtain ⟨m, rfl⟩ : ∃ j, m = j + 1 := ⟨m - 1, by omega⟩
    have e : k = 6 := by omega
    rw [e] at h1 h3 ⊢
    exact br_t (by decide) (nm_r (nI_1 f) (hp fm im h1 h2 h3))
  | succ g ih =>
    intro k m fm im hk hm h1 h2 h3 h4
    obtain ⟨m, rfl⟩ : ∃ j, m = j + 1 := ⟨m - 1, by omega⟩
    have k6 : k < 6 := by omega
    have ik : vp_in (nI k) 6 := vp_in_nI k6 (by decide)
    have ec : (nI k).toNatClampNeg = k := nI_clamp (by omega)
    have i3 : ∀ i, i < k + 1 → upd im k (nI (mj k ||| 2 ^ t k)) i = nI (mj i ||| 2 ^ t i) := fun i hi => by
      rcases Nat.lt_or_ge i k with z | z
      · rw [pk_un (by omega)]
        exact h3 i z
      · have e : i = k := by omega
        rw [e, pk_us]
    have i4 : ∀ i, i < 6 → k + 1 ≤ i → upd im k (nI (mj k ||| 2 ^ t k)) i = nI (mj i) := fun i hi hki => by
      rw [pk_un (by omega)]
      exact h4 i hi (by omega)
    refine br_f (nI_ge (b := 6) k6 (by decide)) (pk_eq f 0 (fun e0 => ⟨ik, ik, nm_r (e' := upd fm k (nI (t k))) (by rw [ec, ht k k6]) ?_⟩) (fun e0 => ?_) rfl rfl (by omega) (by omega))
    · refine xr_27 k6 (ht k k6) (tl k k6) (h4 k k6 (Nat.le_refl k)) (ml k k6) (ih (k + 1) m _ _ (by omega) (by omega) (fun _ i hi => ?_) (fun n => absurd e0 n) i3 i4)
      rcases Nat.lt_or_ge i k with z | z
      · rw [pk_un (by omega)]
        exact h1 e0 i z
      · have e : i = k := by omega
        rw [e, pk_us]
    · exact xr_27 k6 (ht k k6) (tl k k6) (h4 k k6 (Nat.le_refl k)) (ml k k6) (ih (k + 1) m _ _ (by omega) (by omega) (fun z => absurd z e0) h2 i3 i4)
theorem xw_record {post : SX → Prop} {t mj : Nat → Nat} {f : Nat} (hf : f < 1000) (ht : ∀ i, i < 6 → tr i = nI (t i)) (tl : ∀ i, i < 6 → t i < 6) (ml : ∀ i, i < 6 → mj i < 128) (hm : ∀ i, i < 6 → im i = nI (mj i))
    (hp : ∀ fm' im' : Nat → Int32, (f = 0 → ∀ i, i < 6 → fm' i = nI (t i)) → (f ≠ 0 → fm' = fm) → (∀ i, i < 6 → im' i = nI (mj i ||| 2 ^ t i)) → post (nI (f + 1), nm, ty, ga, xs, ys, pr, tr, fm', im')) : wpX_recordMatch post (nI f, nm, ty, ga, xs, ys, pr, tr, fm, im) :=
  ⟨7, xr_2 hf ht tl ml hp 6 0 7 fm im rfl (by decide) (fun _ i h => absurd h (Nat.not_lt_zero i)) (fun _ => rfl) (fun i h => absurd h (Nat.not_lt_zero i)) (fun i h _ => hm i h)⟩
/-! the next assignment -/
theorem xw_swap {post : SX → Prop} {i j : Nat} (hi : i < 6) (hj : j < 6) (h : post (fd, nm, ty, ga, xs, ys, pr, upd (upd tr i (tr j)) j (tr i), fm, im)) : wpX_swapTrial post (fd, nm, ty, ga, xs, ys, pr, tr, fm, im) (nI i) (nI j) := by
  have ii : vp_in (nI i) 6 := vp_in_nI hi (by decide)
  have ij : vp_in (nI j) 6 := vp_in_nI hj (by decide)
  have ei : (nI i).toNatClampNeg = i := nI_clamp (by omega)
  have ej : (nI j).toNatClampNeg = j := nI_clamp (by omega)
  exact ⟨ii, nm_r (e' := tr i) (by rw [ei]) ⟨ij, ii, nm_r (e' := upd tr i (tr j)) (by rw [ei, ej]) ⟨ij, nm_r (e' := upd (upd tr i (tr j)) j (tr i)) (by rw [ej]) h⟩⟩⟩
theorem xt_75 {post : SX → Prop} {p : Nat} (hp : p < 5) (h : ∀ tr' : Nat → Int32, (∀ i, i < 6 → tr' i = tr (if i ≤ p then i else p + 6 - i)) → post (fd, nm, ty, ga, xs, ys, pr, tr', fm, im)) : ∃ n, wX_nextTrial_75 post n 5 (nI (p + 1)) fd nm ty ga xs ys pr tr fm im := by
  have six : ∀ {Q : Nat → Prop}, Q 0 → Q 1 → Q 2 → Q 3 → Q 4 → Q 5 → ∀ i, i < 6 → Q i := fun {Q} q0 q1 q2 q3 q4 q5 i hi => by
    rcases (show i = 0 ∨ i = 1 ∨ i = 2 ∨ i = 3 ∨ i = 4 ∨ i = 5 by omega) with e | e | e | e | e | e <;> rw [e] <;> assumption
  rcases (show p = 0 ∨ p = 1 ∨ p = 2 ∨ p = 3 ∨ p = 4 by omega) with e | e | e | e | e
  · subst e
    exact ⟨3, br_f (by decide) (xw_swap (i := 1) (j := 5) (by decide) (by decide) (nm_r (e' := nI 4) (by decide) (nm_r (e' := nI 2) (by decide) (br_f (by decide) (xw_swap (i := 2) (j := 4) (by decide) (by decide) (nm_r (e' := nI 3) (by decide) (nm_r (e' := nI 3) (by decide) (br_t (by decide) (h _ (six rfl rfl rfl rfl rfl rfl))))))))))⟩
  · subst e
    exact ⟨3, br_f (by decide) (xw_swap (i := 2) (j := 5) (by decide) (by decide) (nm_r (e' := nI 4) (by decide) (nm_r (e' := nI 3) (by decide) (br_f (by decide) (xw_swap (i := 3) (j := 4) (by decide) (by decide) (nm_r (e' := nI 3) (by decide) (nm_r (e' := nI 4) (by decide) (br_t (by decide) (h _ (six rfl rfl rfl rfl rfl rfl))))))))))⟩
  · subst e
    exact ⟨2, br_f (by decide) (xw_swap (i := 3) (j := 5) (by decide) (by decide) (nm_r (e' := nI 4) (by decide) (nm_r (e' := nI 4) (by decide) (br_t (by decide) (h _ (six rfl rfl rfl rfl rfl rfl))))))⟩
  · subst e
    exact ⟨2, br_f (by decide) (xw_swap (i := 4) (j := 5) (by decide) (by decide) (nm_r (e' := nI 4) (by decide) (nm_r (e' := nI 5) (by decide) (br_t (by decide) (h _ (six rfl rfl rfl rfl rfl rfl))))))⟩
  · subst e
    exact ⟨1, br_t (by decide) (h _ (six rfl rfl rfl rfl rfl rfl))⟩
theorem xt_36 {post : SX → Prop} {p s : Nat} {t : Nat → Nat} (ht : ∀ i, i < 6 → tr i = nI (t i)) (tl : ∀ i, i < 6 → t i < 6) (hps : p < s) (hs : s < 6) (h1 : t p < t s) (h2 : ∀ i, i < 6 → s < i → t i < t p) (h : wX_nextTrial_62 post (nI p) (nI s) fd nm ty ga xs ys pr tr fm im) : ∀ d m, s + d < 6 → d < m → wX_nextTrial_36 post (nI p) fd nm ty ga xs ys pr tr fm im m (nI (s + d)) := by
  have ep : tr (nI p).toNatClampNeg = nI (t p) := cm_at (by omega) (ht p (by omega))
  have lp := tl p (by omega)
  have ip : vp_in (nI p) 6 := vp_in_nI (by omega) (by decide)
  intro d
  induction d with
  | zero =>
    intro m hd hm
    obtain ⟨m, rfl⟩ : ∃ j, m = j + 1 := ⟨m - 1, by omega⟩
    have es : tr (nI (s + 0)).toNatClampNeg = nI (t s) := cm_at (by omega) (ht s hs)
    have ls := tl s hs
    refine br_f (nI_ge (by omega) (by omega)) ⟨vp_in_nI (by omega) (by decide), ip, ?_⟩
    rw [es, ep]
    exact br_t (nI_le (by omega) (by omega)) h
  | succ d ih =>
    intro m hd hm
    obtain ⟨m, rfl⟩ : ∃ j, m = j + 1 := ⟨m - 1, by omega⟩
    have es : tr (nI (s + (d + 1))).toNatClampNeg = nI (t (s + (d + 1))) := cm_at (by omega) (ht _ (by omega))
    have l2 := h2 (s + (d + 1)) (by omega) (by omega)
    refine br_f (nI_ge (by omega) (by omega)) ⟨vp_in_nI (by omega) (by decide), ip, ?_⟩
    rw [es, ep]
    exact br_f (nI_ge l2 (by omega)) (nm_r (pk_m1 (s + d)) (ih m (by omega) (by omega)))
theorem xt_2 {post : SX → Prop} {q : Nat} {t : Nat → Nat} (ht : ∀ i, i < 6 → tr i = nI (t i)) (tl : ∀ i, i < 6 → t i < 6) (h2 : ∀ i, i < 5 → q ≤ i → t (i + 1) < t i) (h : ∀ m, wX_nextTrial_2 post fd nm ty ga xs ys pr tr fm im (m + 1) (nI q + (-1))) : ∀ d m, q + d < 6 → d < m → wX_nextTrial_2 post fd nm ty ga xs ys pr tr fm im m (nI (q + d) + (-1)) := by
  intro d
  induction d with
  | zero =>
    intro m hd hm
    obtain ⟨m, rfl⟩ : ∃ j, m = j + 1 := ⟨m - 1, by omega⟩
    exact h m
  | succ d ih =>
    intro m hd hm
    obtain ⟨m, rfl⟩ : ∃ j, m = j + 1 := ⟨m - 1, by omega⟩
    have e1 : nI (q + (d + 1)) + (-1) = nI (q + d) := pk_m1 (q + d)
    have l0 := tl (q + d) (by omega)
    have l2 := h2 (q + d) (by omega) (by omega)
    rw [e1]
    refine br_f (nI_pos (by omega)) ?_
    rw [nI_1]
    have ea : tr (nI (q + d)).toNatClampNeg = nI (t (q + d)) := cm_at (by omega) (ht _ (by omega))
    have eb : tr (nI (q + d + 1)).toNatClampNeg = nI (t (q + d + 1)) := cm_at (by omega) (ht _ (by omega))
    refine ⟨vp_in_nI (by omega) (by decide), vp_in_nI (by omega) (by decide), ?_⟩
    rw [ea, eb]
    exact br_f (nI_ge l2 (by omega)) (nm_e (ih m (by omega) (by omega)))
theorem xw_next {post : SX → Prop} {c : Nat} (hc : c < 720) (ht : ∀ i, i < 6 → tr i = nI (nt_P c i)) (hp : ∀ tr' : Nat → Int32, (c + 1 < 720 → ∀ i, i < 6 → tr' i = nI (nt_P (c + 1) i)) → post (fd, nm, ty, ga, xs, ys, pr, tr', fm, im)) : wpX_nextTrial post (fd, nm, ty, ga, xs, ys, pr, tr, fm, im) := by
  have tl := nt_lt c hc
  rcases Nat.lt_or_ge c 719 with h9 | h9
  · obtain ⟨a1, a2⟩ := nt_pv1 c h9
    have a3 := nt_pv2 c h9
    obtain ⟨b1, b2, b3⟩ := nt_sc1 c h9
    have b4 := nt_sc2 c h9
    have nx := nt_next c h9
    generalize nt_pv c = p at a1 a2 a3 b1 b2 b3 b4 nx
    generalize nt_sc c p = s at b1 b2 b3 b4 nx
    have h62 : wX_nextTrial_62 post (nI p) (nI s) fd nm ty ga xs ys pr tr fm im := by
      unfold wX_nextTrial_62
      refine xw_swap (by omega) b2 (nm_r (nI_1 p) (xt_75 a1 (fun tr' htr => hp tr' (fun _ i hi => ?_))))
      rw [htr i hi, nx i hi]
      rcases Nat.lt_trichotomy i p with z | z | z
      · rw [if_pos (by omega), if_pos z, pk_un (by omega), pk_un (by omega)]
        exact ht i hi
      · rw [if_pos (by omega), if_neg (by omega), if_pos z, pk_un (by omega), z, pk_us]
        exact ht s b2
      · rw [if_neg (by omega), if_neg (by omega), if_neg (by omega)]
        by_cases w : p + 6 - i = s
        · rw [if_pos w, w, pk_us]
          exact ht p (by omega)
        · rw [if_neg w, pk_un w, pk_un (by omega)]
          exact ht _ (by omega)
    have h29 : wX_nextTrial_29 post (nI p) fd nm ty ga xs ys pr tr fm im := by
      refine br_t (nI_pos' (by omega)) ⟨7, ?_⟩
      have h := xt_36 ht tl b1 b2 b3 b4 h62 (5 - s) 7 (by omega) (by omega)
      rw [show s + (5 - s) = 5 by omega] at h
      exact h
    have h2 : ∀ m, wX_nextTrial_2 post fd nm ty ga xs ys pr tr fm im (m + 1) (nI (p + 1) + (-1)) := fun m => by
      rw [pk_m1]
      have l1 := tl (p + 1) (by omega)
      refine br_f (nI_pos (by omega)) ?_
      rw [nI_1]
      have ea : tr (nI p).toNatClampNeg = nI (nt_P c p) := cm_at (by omega) (ht _ (by omega))
      have eb : tr (nI (p + 1)).toNatClampNeg = nI (nt_P c (p + 1)) := cm_at (by omega) (ht _ (by omega))
      refine ⟨vp_in_nI (by omega) (by decide), vp_in_nI (by omega) (by decide), ?_⟩
      rw [ea, eb]
      exact br_t (nI_le (by omega) (by omega)) h29
    have h := xt_2 ht tl (fun i hi hq => a3 i hi (by omega)) h2 (4 - p) 7 (by omega) (by omega)
    rw [show p + 1 + (4 - p) = 4 + 1 by omega, pk_m1] at h
    exact ⟨7, h⟩
  · have e9 : c = 719 := by omega
    have h2 : ∀ m, wX_nextTrial_2 post fd nm ty ga xs ys pr tr fm im (m + 1) (nI 0 + (-1)) := fun m => br_t (by decide) (br_f (by decide) (hp tr (fun z => absurd z (by omega))))
    have h := xt_2 ht tl (fun i hi _ => by rw [e9]; exact nt_last i hi) h2 5 7 (by decide) (by decide)
    rw [show 0 + 5 = 4 + 1 from rfl, pk_m1] at h
    exact ⟨7, h⟩
/-! the survey -/
theorem xv_7 {post : SX → Prop} {a b L R : Nat} {F : Nat → Bool} (A : dv_A ty ga xs ys T G X Y) (ha : a < 2) (hb : b < 2) (hL : L < 128) (hR : R < 128) (ep : pr b = nI R)
    (hF : ∀ c, c < 720 → (F c = true ↔ (fi_N nm a b (nt_P c) ∧ fi_D T G X Y (fun d => L.testBit d) (fun d => R.testBit d) a b (nt_P c))))
    (hp : ∀ (fd : Int32) (tr fm im : Nat → Int32), fd = nI (pm_tot F 720) → (0 < pm_tot F 720 → ∃ c, pf_fs F c 720 ∧ ∀ i, i < 6 → fm i = nI (nt_P c i)) → (∀ i, i < 6 → im i = nI (pf_im F i 720)) → post (fd, nm, ty, ga, xs, ys, pr, tr, fm, im)) :
    ∀ f k m (fd : Int32) (tr fm im : Nat → Int32), k + f = 720 → f < m → fd = nI (pm_tot F k) → (0 < pm_tot F k → ∃ c, pf_fs F c k ∧ ∀ i, i < 6 → fm i = nI (nt_P c i)) → (∀ i, i < 6 → im i = nI (pf_im F i k)) → (k < 720 → ∀ i, i < 6 → tr i = nI (nt_P k i)) → wX_survey_7 post (nI a) (nI L) (nI b) m (nI k) fd nm ty ga xs ys pr tr fm im := by
  intro f
  induction f with
  | zero =>
    intro k m fd tr fm im hk hm h1 h2 h3 h4
    obtain ⟨m, rfl⟩ : ∃ j, m = j + 1 := ⟨m - 1, by omega⟩
    have e : k = 720 := by omega
    rw [e] at h1 h2 h3 ⊢
    exact br_t (by decide) (hp fd tr fm im h1 h2 h3)
  | succ f ih =>
    intro k m fd tr fm im hk hm h1 h2 h3 h4
    obtain ⟨m, rfl⟩ : ∃ j, m = j + 1 := ⟨m - 1, by omega⟩
    have k7 : k < 720 := by omega
    have ht := h4 k7
    have tl := nt_lt k k7
    have next : ∀ (fd : Int32) (fm im : Nat → Int32), fd = nI (pm_tot F (k + 1)) → (0 < pm_tot F (k + 1) → ∃ c, pf_fs F c (k + 1) ∧ ∀ i, i < 6 → fm i = nI (nt_P c i)) → (∀ i, i < 6 → im i = nI (pf_im F i (k + 1))) → wX_survey_38 post (wX_survey_7 post (nI a) (nI L) (nI b) m) (nI a) (nI L) (nI b) (nI k) fd nm ty ga xs ys pr tr fm im := by
      intro fd fm im g1 g2 g3
      unfold wX_survey_38
      exact xw_next k7 ht (fun tr' htr => nm_r (nI_1 k) (ih (k + 1) m fd tr' fm im (by omega) (by omega) g1 g2 g3 htr))
    have nof : ¬ (fi_N nm a b (nt_P k) ∧ fi_D T G X Y (fun d => L.testBit d) (fun d => R.testBit d) a b (nt_P k)) → wX_survey_38 post (wX_survey_7 post (nI a) (nI L) (nI b) m) (nI a) (nI L) (nI b) (nI k) fd nm ty ga xs ys pr tr fm im := fun n => by
      have e0 : ¬ F k = true := fun z => n ((hF k k7).mp z)
      have e1 : pm_tot F (k + 1) = pm_tot F k := by
        simp only [pm_tot]
        rw [if_neg e0]
        rfl
      have e2 : ∀ i, pf_im F i (k + 1) = pf_im F i k := fun i => by
        simp only [pf_im]
        rw [if_neg e0]
      refine next fd fm im (by rw [e1]; exact h1) (fun w => ?_) (fun i hi => by rw [e2]; exact h3 i hi)
      rw [e1] at w
      obtain ⟨c, z1, z2⟩ := h2 w
      exact ⟨c, ⟨by have := z1.1; omega, z1.2⟩, z2⟩
    refine br_f (nI_ge (b := 720) k7 (by decide)) (xw_names ht tl ha hb (fun hn => br_f (by decide) (xw_devs A ht tl ha hb hL hR ep (fun hd => br_f (by decide) ?_) (fun hd => br_t rfl (nof (fun z => hd z.2))))) (fun hn => br_t rfl (nof (fun z => hn z.1))))
    have e0 : F k = true := (hF k k7).mpr ⟨hn, hd⟩
    have e1 : pm_tot F (k + 1) = pm_tot F k + 1 := by
      simp only [pm_tot]
      rw [if_pos e0]
    have e2 : ∀ i, pf_im F i (k + 1) = pf_im F i k ||| 2 ^ nt_P k i := fun i => by
      simp only [pf_im]
      rw [if_pos e0]
    have l1 := pm_tot_le F k
    rw [h1]
    refine xw_record (by omega) ht tl (fun i hi => pf_im_lt hi k (by omega)) h3 (fun fm' im' z1 z2 z3 => next _ fm' im' (by rw [e1]) (fun _ => ?_) (fun i hi => by rw [e2]; exact z3 i hi))
    rcases Nat.eq_zero_or_pos (pm_tot F k) with w | w
    · exact ⟨k, ⟨by omega, e0, (pm_tot_0 k).mp w⟩, z1 w⟩
    · obtain ⟨c, y1, y2⟩ := h2 w
      rw [z2 (by omega)]
      exact ⟨c, ⟨by have := y1.1; omega, y1.2⟩, y2⟩
theorem xw_survey {post : SX → Prop} {a b L R : Nat} {F : Nat → Bool} (A : dv_A ty ga xs ys T G X Y) (ha : a < 2) (hb : b < 2) (hL : L < 128) (hR : R < 128) (ep : pr b = nI R)
    (hF : ∀ c, c < 720 → (F c = true ↔ (fi_N nm a b (nt_P c) ∧ fi_D T G X Y (fun d => L.testBit d) (fun d => R.testBit d) a b (nt_P c))))
    (hp : ∀ (fd : Int32) (tr fm im : Nat → Int32), fd = nI (pm_tot F 720) → (0 < pm_tot F 720 → ∃ c, pf_fs F c 720 ∧ ∀ i, i < 6 → fm i = nI (nt_P c i)) → (∀ i, i < 6 → im i = nI (pf_im F i 720)) → post (fd, nm, ty, ga, xs, ys, pr, tr, fm, im)) : wpX_survey post (fd, nm, ty, ga, xs, ys, pr, tr, fm, im) (nI a) (nI L) (nI b) := by
  unfold wpX_survey
  refine xw_start (fun fd tr im h1 h2 h3 => ⟨721, ?_⟩)
  exact xv_7 A ha hb hL hR ep hF hp 720 0 721 fd tr fm im rfl (by decide) h1 (fun w => absurd w (Nat.lt_irrefl 0)) h3 (fun _ i hi => by rw [nt_0 i hi]; exact h2 i hi)
end XSURV
