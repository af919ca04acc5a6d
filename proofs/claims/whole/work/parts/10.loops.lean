/-! the reference: its loops over the assignments -/
section YLOOP
variable {th ty ga xs ys nn to : Nat → Int32} {T G X Y : Nat → Nat} {F : Nat → Bool} {a b : Nat}
/-- F says of each assignment whether it fits, as the reference sees it -/
def rl_Y (T G X Y : Nat → Nat) (th nn : Nat → Int32) (a b : Nat) (F : Nat → Bool) : Prop := ∀ c, c < 720 → (F c = true ↔ (fi_N nn a b (nt_P c) ∧ fi_D T G X Y (fun d => th_H th (7 * a + d)) (fun d => th_H th (7 * b + d)) a b (nt_P c)))
theorem yl_fit {post : Int32 → Prop} {c : Nat} (A : dv_A ty ga xs ys T G X Y) (hF : rl_Y T G X Y th nn a b F) (ha : a < 2) (hb : b < 2) (hc : c < 720) (ht : ∀ i, i < 6 → to i = nI (nt_P c i)) (h1 : F c = true → post 1) (h0 : F c = false → post 0) : wpY_fits post (th, ty, ga, xs, ys, nn, to) (nI a) (nI b) :=
  yw_fits A ht (nt_lt c hc) ha hb (fun z1 z2 => h1 ((hF c hc).mpr ⟨z1, z2⟩)) (fun n => h0 (th_nt (fun z => n ((hF c hc).mp z))))
theorem yl_first2 {post : Int32 → SY → Prop} (A : dv_A ty ga xs ys T G X Y) (hF : rl_Y T G X Y th nn 0 1 F)
    (h1 : ∀ (c : Nat) (to : Nat → Int32), pf_fs F c 720 → (∀ i, i < 6 → to i = nI (nt_P c i)) → post (nI c) (th, ty, ga, xs, ys, nn, to)) (h0 : pm_tot F 720 = 0 → ∀ to : Nat → Int32, post (-1) (th, ty, ga, xs, ys, nn, to)) :
    ∀ f k m (to : Nat → Int32), k + f = 720 → f < m → (∀ c, c < k → F c = false) → wY_first_2 post m (nI k) th ty ga xs ys nn to := by
  intro f
  induction f with
  | zero =>
    intro k m to hk hm hE
    obtain ⟨m, rfl⟩ : ∃ j, m = j + 1 := ⟨m - 1, by omega⟩
    have e : k = 720 := by omega
    rw [e] at hE ⊢
    exact br_t (by decide) (h0 ((pm_tot_0 720).mpr hE) to)
  | succ f ih =>
    intro k m to hk hm hE
    obtain ⟨m, rfl⟩ : ∃ j, m = j + 1 := ⟨m - 1, by omega⟩
    have k7 : k < 720 := by omega
    refine br_f (nI_ge (b := 720) k7 (by decide)) (yw_spell k7 (fun to ht => ?_))
    refine yl_fit (a := 0) (b := 1) A hF (by decide) (by decide) k7 ht (fun e => br_f (by decide) (h1 k to ⟨k7, e, hE⟩ ht)) (fun e => br_t rfl (nm_r (nI_1 k) (ih (k + 1) m to (by omega) (by omega) (fun c hc => ?_))))
    rcases Nat.lt_or_ge c k with z | z
    · exact hE c z
    · have e2 : c = k := by omega
      rw [e2]
      exact e
theorem yl_first {post : Int32 → SY → Prop} (A : dv_A ty ga xs ys T G X Y) (hF : rl_Y T G X Y th nn 0 1 F)
    (h1 : ∀ (c : Nat) (to : Nat → Int32), pf_fs F c 720 → (∀ i, i < 6 → to i = nI (nt_P c i)) → post (nI c) (th, ty, ga, xs, ys, nn, to)) (h0 : pm_tot F 720 = 0 → ∀ to : Nat → Int32, post (-1) (th, ty, ga, xs, ys, nn, to)) : wpY_first post (th, ty, ga, xs, ys, nn, to) :=
  ⟨721, yl_first2 A hF h1 h0 720 0 721 to rfl (by decide) (fun c h => absurd h (Nat.not_lt_zero c))⟩
theorem yl_match {post : Int32 → SY → Prop} (A : dv_A ty ga xs ys T G X Y) (hF : rl_Y T G X Y th nn 0 1 F)
    (h1 : 0 < pm_tot F 720 → ∀ to : Nat → Int32, post 1 (th, ty, ga, xs, ys, nn, to)) (h0 : pm_tot F 720 = 0 → ∀ to : Nat → Int32, post 0 (th, ty, ga, xs, ys, nn, to)) : wpY_match post (th, ty, ga, xs, ys, nn, to) := by
  unfold wpY_match
  exact yl_first A hF (fun c to hc _ => br_f (nI_pos (by have := hc.1; omega)) (h1 (pf_some hc) to)) (fun e to => br_t (by decide) (h0 e to))
theorem yl_assigned {post : Int32 → SY → Prop} {i : Nat} (A : dv_A ty ga xs ys T G X Y) (hF : rl_Y T G X Y th nn 0 1 F) (hi : i < 6)
    (h1 : ∀ (c : Nat) (to : Nat → Int32), pf_fs F c 720 → post (nI (nt_P c i)) (th, ty, ga, xs, ys, nn, to)) (h0 : pm_tot F 720 = 0 → ∀ to : Nat → Int32, post (-1) (th, ty, ga, xs, ys, nn, to)) : wpY_assigned post (th, ty, ga, xs, ys, nn, to) (nI i) := by
  unfold wpY_assigned
  refine ne_Y hi (br_f (by decide) (yl_first A hF (fun c to hc ht => br_f (nI_pos (by have := hc.1; omega)) ⟨vp_in_nI hi (by decide), ?_⟩) (fun e to => br_t (by decide) (h0 e to))))
  rw [cm_at (by omega) (ht i hi)]
  exact h1 c to hc
theorem yl_matches4 {post : Int32 → SY → Prop} (A : dv_A ty ga xs ys T G X Y) (hF : rl_Y T G X Y th nn 0 1 F) (h : ∀ to : Nat → Int32, post (nI (pm_tot F 720)) (th, ty, ga, xs, ys, nn, to)) :
    ∀ f k m (to : Nat → Int32), k + f = 720 → f < m → wY_matches_4 post m (nI (pm_tot F k)) (nI k) th ty ga xs ys nn to := by
  intro f
  induction f with
  | zero =>
    intro k m to hk hm
    obtain ⟨m, rfl⟩ : ∃ j, m = j + 1 := ⟨m - 1, by omega⟩
    have e : k = 720 := by omega
    rw [e]
    exact br_t (by decide) (h to)
  | succ f ih =>
    intro k m to hk hm
    obtain ⟨m, rfl⟩ : ∃ j, m = j + 1 := ⟨m - 1, by omega⟩
    have k7 : k < 720 := by omega
    refine br_f (nI_ge (b := 720) k7 (by decide)) (yw_spell k7 (fun to ht => ?_))
    refine yl_fit (a := 0) (b := 1) A hF (by decide) (by decide) k7 ht (fun e => br_f (by decide) (nm_r (nI_1 _) (nm_r (nI_1 k) ?_))) (fun e => br_t rfl (nm_r (nI_1 k) ?_))
    · have e1 : pm_tot F (k + 1) = pm_tot F k + 1 := by
        simp only [pm_tot]
        rw [if_pos e]
      rw [← e1]
      exact ih (k + 1) m to (by omega) (by omega)
    · have e1 : pm_tot F (k + 1) = pm_tot F k := by
        simp only [pm_tot]
        rw [if_neg (th_cl e)]
        rfl
      rw [← e1]
      exact ih (k + 1) m to (by omega) (by omega)
theorem yl_matches {post : Int32 → SY → Prop} (A : dv_A ty ga xs ys T G X Y) (hF : rl_Y T G X Y th nn 0 1 F) (h : ∀ to : Nat → Int32, post (nI (pm_tot F 720)) (th, ty, ga, xs, ys, nn, to)) : wpY_matches post (th, ty, ga, xs, ys, nn, to) :=
  ⟨721, yl_matches4 A hF h 720 0 721 to rfl (by decide)⟩
theorem yl_cand4 {post : Int32 → SY → Prop} {i : Nat} (A : dv_A ty ga xs ys T G X Y) (hF : rl_Y T G X Y th nn 0 1 F) (hi : i < 6) (h : ∀ to : Nat → Int32, post (nI (pf_im F i 720)) (th, ty, ga, xs, ys, nn, to)) :
    ∀ f k m (to : Nat → Int32), k + f = 720 → f < m → wY_candidates_4 post (nI i) m (nI (pf_im F i k)) (nI k) th ty ga xs ys nn to := by
  intro f
  induction f with
  | zero =>
    intro k m to hk hm
    obtain ⟨m, rfl⟩ : ∃ j, m = j + 1 := ⟨m - 1, by omega⟩
    have e : k = 720 := by omega
    rw [e]
    exact br_t (by decide) (h to)
  | succ f ih =>
    intro k m to hk hm
    obtain ⟨m, rfl⟩ : ∃ j, m = j + 1 := ⟨m - 1, by omega⟩
    have k7 : k < 720 := by omega
    refine br_f (nI_ge (b := 720) k7 (by decide)) (ne_Y hi (br_f (by decide) (yw_spell k7 (fun to ht => ?_))))
    refine yl_fit (a := 0) (b := 1) A hF (by decide) (by decide) k7 ht (fun e => br_f (by decide) ⟨vp_in_nI hi (by decide), nm_r (e' := nI (pf_im F i (k + 1))) ?_ (nm_r (nI_1 k) ?_)⟩) (fun e => br_t rfl (nm_r (nI_1 k) ?_))
    · have p6 := nt_lt k k7 i hi
      rw [cm_at (by omega) (ht i hi), (bs_set _ (pf_im_lt hi k (by omega)) _ (by omega)).1]
      simp only [pf_im]
      rw [if_pos e]
    · exact ih (k + 1) m to (by omega) (by omega)
    · have e1 : pf_im F i (k + 1) = pf_im F i k := by
        simp only [pf_im]
        rw [if_neg (th_cl e)]
      rw [← e1]
      exact ih (k + 1) m to (by omega) (by omega)
theorem yl_cand {post : Int32 → SY → Prop} {i : Nat} (A : dv_A ty ga xs ys T G X Y) (hF : rl_Y T G X Y th nn 0 1 F) (hi : i < 6) (h : ∀ to : Nat → Int32, post (nI (pf_im F i 720)) (th, ty, ga, xs, ys, nn, to)) : wpY_candidates post (th, ty, ga, xs, ys, nn, to) (nI i) :=
  ⟨721, yl_cand4 A hF hi h 720 0 721 to rfl (by decide)⟩
theorem yl_sym4 {post : Int32 → SY → Prop} (A : dv_A ty ga xs ys T G X Y) (ha : a < 2) (hF : rl_Y T G X Y th nn a a F) (h : ∀ to : Nat → Int32, post (nI (pm_tot F 720)) (th, ty, ga, xs, ys, nn, to)) :
    ∀ f k m (to : Nat → Int32), k + f = 720 → f < m → wY_symmetries_4 post (nI a) m (nI (pm_tot F k)) (nI k) th ty ga xs ys nn to := by
  intro f
  induction f with
  | zero =>
    intro k m to hk hm
    obtain ⟨m, rfl⟩ : ∃ j, m = j + 1 := ⟨m - 1, by omega⟩
    have e : k = 720 := by omega
    rw [e]
    refine br_t (by decide) ?_
    unfold wY_symmetries_47
    exact ci_Y ha (br_f (by decide) (h to))
  | succ f ih =>
    intro k m to hk hm
    obtain ⟨m, rfl⟩ : ∃ j, m = j + 1 := ⟨m - 1, by omega⟩
    have k7 : k < 720 := by omega
    refine br_f (nI_ge (b := 720) k7 (by decide)) (ci_Y ha (br_f (by decide) (yw_spell k7 (fun to ht => ?_))))
    refine yl_fit A hF ha ha k7 ht (fun e => br_f (by decide) (nm_r (nI_1 _) (nm_r (nI_1 k) ?_))) (fun e => br_t rfl (nm_r (nI_1 k) ?_))
    · have e1 : pm_tot F (k + 1) = pm_tot F k + 1 := by
        simp only [pm_tot]
        rw [if_pos e]
      rw [← e1]
      exact ih (k + 1) m to (by omega) (by omega)
    · have e1 : pm_tot F (k + 1) = pm_tot F k := by
        simp only [pm_tot]
        rw [if_neg (th_cl e)]
        rfl
      rw [← e1]
      exact ih (k + 1) m to (by omega) (by omega)
theorem yl_sym {post : Int32 → SY → Prop} (A : dv_A ty ga xs ys T G X Y) (ha : a < 2) (hF : rl_Y T G X Y th nn a a F) (h : ∀ to : Nat → Int32, post (nI (pm_tot F 720)) (th, ty, ga, xs, ys, nn, to)) : wpY_symmetries post (th, ty, ga, xs, ys, nn, to) (nI a) :=
  ⟨721, yl_sym4 A ha hF h 720 0 721 to rfl (by decide)⟩
theorem yl_exch1 {post : Int32 → SY → Prop} {i j : Nat} {x : Int32} (ha : a < 2) (hi : i < 6) (hj : j < 6) (h : post 1 (th, ty, ga, xs, ys, nn, to)) (m : Nat) : wY_exchangeable_6 post (nI a) (nI i) (nI j) (m + 1) 1 x th ty ga xs ys nn to :=
  br_c (fun _ => ⟨rfl, h⟩) (fun _ => ci_Y ha (br_f (by decide) (ne_Y hi (br_f (by decide) (ne_Y hj (br_f (by decide) (br_f (by decide) ⟨rfl, h⟩)))))))
theorem yl_exch6 {post : Int32 → SY → Prop} {i j : Nat} (A : dv_A ty ga xs ys T G X Y) (ha : a < 2) (hi : i < 6) (hj : j < 6) (hF : rl_Y T G X Y th nn a a F)
    (h1 : (∃ c, c < 720 ∧ F c = true ∧ nt_P c i = j) → ∀ to : Nat → Int32, post 1 (th, ty, ga, xs, ys, nn, to)) (h0 : ¬ (∃ c, c < 720 ∧ F c = true ∧ nt_P c i = j) → ∀ to : Nat → Int32, post 0 (th, ty, ga, xs, ys, nn, to)) :
    ∀ f k m (to : Nat → Int32), k + f = 720 → f + 1 < m → (∀ c, c < k → ¬ (F c = true ∧ nt_P c i = j)) → wY_exchangeable_6 post (nI a) (nI i) (nI j) m 0 (nI k) th ty ga xs ys nn to := by
  intro f
  induction f with
  | zero =>
    intro k m to hk hm hE
    obtain ⟨m, rfl⟩ : ∃ j, m = j + 1 := ⟨m - 1, by omega⟩
    have e : k = 720 := by omega
    rw [e] at hE ⊢
    exact br_t (by decide) ⟨rfl, h0 (fun ⟨c, z1, z2⟩ => hE c z1 z2) to⟩
  | succ f ih =>
    intro k m to hk hm hE
    obtain ⟨m, rfl⟩ : ∃ j, m = j + 2 := ⟨m - 2, by omega⟩
    have k7 : k < 720 := by omega
    have p6 := nt_lt k k7 i hi
    have go : ∀ to : Nat → Int32, ¬ (F k = true ∧ nt_P k i = j) → wY_exchangeable_6 post (nI a) (nI i) (nI j) (m + 1) 0 (nI (k + 1)) th ty ga xs ys nn to := fun to n => ih (k + 1) (m + 1) to (by omega) (by omega) (fun c hc => by
      rcases Nat.lt_or_ge c k with z | z
      · exact hE c z
      · have e2 : c = k := by omega
        rw [e2]
        exact n)
    refine br_f (nI_ge (b := 720) k7 (by decide)) (ci_Y ha (br_f (by decide) (ne_Y hi (br_f (by decide) (ne_Y hj (br_f (by decide) (br_t rfl (yw_spell k7 (fun to ht => ⟨vp_in_nI hi (by decide), ?_⟩)))))))))
    refine ek_if (cm_eq (cm_at (by omega) (ht i hi)) rfl (by omega) (by omega)) (fun e => ?_) (fun e => nm_r (nI_1 k) (go to (fun z => e z.2)))
    exact yl_fit A hF ha ha k7 ht (fun z => br_f (by decide) (nm_r (nI_1 k) (yl_exch1 ha hi hj (h1 ⟨k, k7, z, e⟩ to) m))) (fun z => br_t rfl (nm_r (nI_1 k) (go to (fun w => th_cl z w.1))))
theorem yl_exch {post : Int32 → SY → Prop} {i j : Nat} (A : dv_A ty ga xs ys T G X Y) (ha : a < 2) (hi : i < 6) (hj : j < 6) (hF : rl_Y T G X Y th nn a a F)
    (h1 : (∃ c, c < 720 ∧ F c = true ∧ nt_P c i = j) → ∀ to : Nat → Int32, post 1 (th, ty, ga, xs, ys, nn, to)) (h0 : ¬ (∃ c, c < 720 ∧ F c = true ∧ nt_P c i = j) → ∀ to : Nat → Int32, post 0 (th, ty, ga, xs, ys, nn, to)) : wpY_exchangeable post (th, ty, ga, xs, ys, nn, to) (nI a) (nI i) (nI j) :=
  ⟨722, yl_exch6 A ha hi hj hF h1 h0 720 0 722 to rfl (by decide) (fun c h => absurd h (Nat.not_lt_zero c))⟩
/-- the least of k, k + 1, .. of which S says so; -1 if none of the f does -/
def sl_L (S : Nat → Bool) : Nat → Nat → Int32
  | 0, _ => -1
  | f + 1, k => if S k = true then nI k else sl_L S f (k + 1)
/-- the devices that are there, taken one away -/
def th_wo (th : Nat → Int32) (d : Nat) : Nat → Int32 := upd th d (vp_nar .boolean 0)
theorem sp_v0 : vp_nar .boolean 0 = 0 := by decide
theorem sp_v1 : vp_nar .boolean 1 = 1 := by decide
theorem sp_H1 {th : Nat → Int32} {d j : Nat} : th_H (upd th d 1) j = (th_H th j || j == d) := by
  unfold th_H
  by_cases c : j = d
  · rw [c, pk_us]
    simp
  · rw [pk_un c]
    have : (j == d) = false := by rw [beq_eq_false_iff_ne]; exact c
    rw [this]
    simp
theorem sp_H0 {th : Nat → Int32} {d j : Nat} : th_H (upd th d 0) j = (th_H th j && !(j == d)) := by
  unfold th_H
  by_cases c : j = d
  · rw [c, pk_us]
    simp
  · rw [pk_un c]
    have : (j == d) = false := by rw [beq_eq_false_iff_ne]; exact c
    rw [this]
    simp
theorem yl_surp5 {post : Int32 → SY → Prop} {FF : Nat → Nat → Bool} {H : Nat → Bool} (A : dv_A ty ga xs ys T G X Y)
    (hF : ∀ d, d < 7 → ∀ th : Nat → Int32, (∀ j, j < 14 → th_H th j = (H j && !(j == d))) → rl_Y T G X Y th nn 0 1 (FF d))
    (h : ∀ (th to : Nat → Int32), (∀ j, j < 14 → th_H th j = H j) → post (sl_L (fun d => H d && decide (0 < pm_tot (FF d) 720)) 7 0) (th, ty, ga, xs, ys, nn, to)) :
    ∀ k m (th to : Nat → Int32), k ≤ 7 → k < m → (∀ j, j < 14 → th_H th j = H j) → wY_surplus_5 post m (sl_L (fun d => H d && decide (0 < pm_tot (FF d) 720)) (7 - k) k) (nI k + (-1)) th ty ga xs ys nn to := by
  intro k
  induction k with
  | zero =>
    intro m th to hk hm hH
    obtain ⟨m, rfl⟩ : ∃ j, m = j + 1 := ⟨m - 1, by omega⟩
    exact br_t (by decide) (h th to hH)
  | succ k ih =>
    intro m th to hk hm hH
    obtain ⟨m, rfl⟩ : ∃ j, m = j + 1 := ⟨m - 1, by omega⟩
    have k14 : k < 14 := by omega
    have ec : (nI k).toNatClampNeg = k := nI_clamp (by omega)
    have sl : sl_L (fun d => H d && decide (0 < pm_tot (FF d) 720)) (7 - k) k = (if (H k && decide (0 < pm_tot (FF k) 720)) = true then nI k else sl_L (fun d => H d && decide (0 < pm_tot (FF d) 720)) (7 - (k + 1)) (k + 1)) := by
      rw [show 7 - k = (7 - (k + 1)) + 1 by omega]
      rfl
    rw [pk_m1]
    refine br_f (nI_pos (by omega)) ⟨vp_in_nI k14 (by decide), ek_if (th_f (by omega)) (fun e => nm_e ?_) (fun e => ⟨vp_in_nI k14 (by decide), nm_r (e' := upd th k 0) (by rw [ec, sp_v0]) ?_⟩)⟩
    · have e1 : H k = false := by rw [← hH k k14]; exact e
      rw [e1, Bool.false_and, if_neg (by decide)] at sl
      rw [← sl]
      exact ih m th to (by omega) (by omega) hH
    · have e1 : H k = true := by rw [← hH k k14]; exact th_nf e
      have back : ∀ (z : Int32) (to : Nat → Int32), z = sl_L (fun d => H d && decide (0 < pm_tot (FF d) 720)) (7 - k) k → wY_surplus_37 post (wY_surplus_5 post m) (nI k) z (upd th k 0) ty ga xs ys nn to := fun z to hz => by
        refine ⟨vp_in_nI k14 (by decide), nm_r (e' := upd (upd th k 0) k 1) (by rw [ec, sp_v1]) (nm_e ?_)⟩
        rw [hz]
        refine ih m _ to (by omega) (by omega) (fun j hj => ?_)
        rw [sp_H1, sp_H0, hH j hj]
        by_cases c : j = k
        · rw [c, e1]
          simp
        · have : (j == k) = false := by rw [beq_eq_false_iff_ne]; exact c
          rw [this]
          simp
      refine yl_first A (hF k (by omega) (upd th k 0) (fun j hj => by rw [sp_H0, hH j hj])) (fun c to hc _ => br_f (nI_pos (by have := hc.1; omega)) (back _ to ?_)) (fun e2 to => br_t (by decide) (back _ to ?_))
      · rw [sl, e1, decide_eq_true (pf_some hc), if_pos (by decide)]
      · rw [sl, e1, decide_eq_false (by omega), if_neg (by decide)]
theorem yl_surp {post : Int32 → SY → Prop} {FF : Nat → Nat → Bool} {H : Nat → Bool} (A : dv_A ty ga xs ys T G X Y)
    (hF : ∀ d, d < 7 → ∀ th : Nat → Int32, (∀ j, j < 14 → th_H th j = (H j && !(j == d))) → rl_Y T G X Y th nn 0 1 (FF d))
    (hH : ∀ j, j < 14 → th_H th j = H j)
    (h : ∀ (th to : Nat → Int32), (∀ j, j < 14 → th_H th j = H j) → post (sl_L (fun d => H d && decide (0 < pm_tot (FF d) 720)) 7 0) (th, ty, ga, xs, ys, nn, to)) : wpY_surplus post (th, ty, ga, xs, ys, nn, to) := by
  have h7 := yl_surp5 A hF h 7 8 th to (by decide) (by decide) hH
  rw [show nI 7 + (-1) = nI 6 from pk_m1 6] at h7
  exact ⟨8, h7⟩
end YLOOP
