theorem i_up {k : Nat} {u : SX} {v : SY} (h : i_Rel k u v) : i_Rel (k + 4) u v := h
theorem xi_77 {post : SX → Prop} {fd : Int32} {ty ga xs ys pr tr fm im : Nat → Int32} (h : ∀ nm : Nat → Int32, (∀ j, j < 12 → nm j = -1) → post (fd, nm, ty, ga, xs, ys, pr, tr, fm, im)) : ∀ f k m (nm : Nat → Int32), k + f = 12 → f < m → (∀ j, j < k → nm j = -1) → wX_init_77 post fd m (nI k) nm ty ga xs ys pr tr fm im := by
  intro f
  induction f with
  | zero =>
    intro k m nm hk hm hE
    obtain ⟨m, rfl⟩ : ∃ j, m = j + 1 := ⟨m - 1, by omega⟩
    have e : k = 12 := by omega
    rw [e] at hE ⊢
    exact br_t (by decide) (h nm hE)
  | succ f ih =>
    intro k m nm hk hm hE
    obtain ⟨m, rfl⟩ : ∃ j, m = j + 1 := ⟨m - 1, by omega⟩
    have k12 : k < 12 := by omega
    refine br_f (nI_ge (b := 12) k12 (by decide)) ⟨vp_in_nI k12 (by decide), nm_r (e' := upd nm k (-1)) (by rw [nI_clamp (by omega)]) (nm_r (nI_1 k) (ih (k + 1) m _ (by omega) (by omega) (fun j hj => ?_)))⟩
    rcases Nat.lt_or_ge j k with z | z
    · rw [pk_un (by omega)]
      exact hE j z
    · have e : j = k := by omega
      rw [e, pk_us]
theorem i_vc0 : wpX_init (fun u => wpY_init (fun v => i_Rel 0 u v)) := by
  refine ⟨13, xi_77 (fun nm hE => ?_) 12 0 13 (fun _ => 0) rfl (by decide) (fun j h => absurd h (Nat.not_lt_zero j))⟩
  unfold wpY_init
  refine rl_mk (T := fun _ => 0) (G := fun _ => 0) (X := fun _ => 0) (Y := fun _ => 0) (M := fun _ => 0) ⟨⟨fun j => ⟨rfl, rfl, rfl, rfl⟩, fun j => ⟨(by decide : 0 < 3), (by decide : 0 < 6), (by decide : 0 < 6), (by decide : 0 < 6)⟩⟩, fun j hj => ?_, fun c hc => ⟨rfl, (by decide : 0 < 128), fun d hd => ?_⟩⟩
  · rw [hE j hj]
    exact (by decide : (0 : Int32) = -1 + 1)
  · show (0 : Nat).testBit d = th_H (fun _ => 0) (7 * c + d)
    simp [th_H]
theorem i_vc_add {k : Nat} {u : SX} {v : SY} (I : i_Rel k u v) (hk : k + 4 ≤ 2048) (v1 : Int32) (v2 : Int32) (v3 : Int32) : wpX_add (fun r u' => wpY_add (fun r' v' => r' = r ∧ i_Rel (k + 4) u' v') v v1 v2 v3) u v1 v2 v3 := by
  obtain ⟨fd, nm, ty, ga, xs, ys, pr, tr, fm, im, th, nn, to, T, G, X, Y, M, C, rfl, rfl⟩ := I
  rcases ci_no v1 with ⟨c, hc, rfl⟩ | ⟨nx, ny⟩
  · obtain ⟨m1, m2, m3⟩ := C.2.2 c hc
    rcases pk_ix v2 (n := 3) (by omega) with h | h | ⟨t, ht, rfl⟩
    · unfold wpX_add
      exact ci_X hc (br_f (by decide) (br_t h (ya_bad1 hc (Or.inl h) ⟨rfl, rl_mk C⟩)))
    · have h' : (3 : Int32) ≤ v2 := h
      have z : ¬ v2 < 0 := fun e => absurd (Int32.lt_of_le_of_lt h' e) (by decide)
      unfold wpX_add
      exact ci_X hc (br_f (by decide) (br_f z (br_t h' (ya_bad1 hc (Or.inr h) ⟨rfl, rl_mk C⟩))))
    · have bad : ∀ n : ¬ ((∃ g, g < 6 ∧ v3 &&& 7 = nI g) ∧ (∃ x, x < 6 ∧ (v3 >>> ((3 : Int32) &&& 31)) &&& 7 = nI x) ∧ (∃ y, y < 6 ∧ v3 >>> ((6 : Int32) &&& 31) = nI y)), wpY_add (fun r' v' => r' = (-1) ∧ i_Rel (k + 4) (fd, nm, ty, ga, xs, ys, pr, tr, fm, im) v') (th, ty, ga, xs, ys, nn, to) (nI c) (nI t) v3 := fun n => ya_net hc ht (fun _ => ⟨rfl, rl_mk C⟩) (fun z => absurd z n)
      unfold wpX_add
      refine ci_X hc (br_f (by decide) (br_f (nI_pos (by omega)) (br_f (nI_ge (b := 3) ht (by decide)) (br_c (fun h0 => ?_) (fun h0 => bad (fun z => sh_neg h0 z.2.2))))))
      rcases ne_no2 (v3 &&& 7) with ⟨g, hg, eg⟩ | ⟨n1, n2⟩
      · rcases ne_no2 ((v3 >>> ((3 : Int32) &&& 31)) &&& 7) with ⟨x, hx, ex⟩ | ⟨n1, n2⟩
        · rcases ne_no2 (v3 >>> ((6 : Int32) &&& 31)) with ⟨y, hy, ey⟩ | ⟨n1, n2⟩
          · refine nm_r eg (nm_r ex (nm_r ey (ne_X hg (br_f (by decide) (ne_X hx (br_f (by decide) (ne_X hy (br_f (by decide) ?_))))))))
            refine xl_free hc m2 m1 (fun d hd hlt hbit => ?_) (fun hall => br_t rfl (ya_net hc ht (fun n => absurd ⟨⟨g, hg, eg⟩, ⟨x, hx, ex⟩, ⟨y, hy, ey⟩⟩ n) (fun _ => ⟨8, ya_57f hc (fun d hd => by rw [← m3 d hd]; exact hall d hd) ⟨rfl, rl_mk C⟩ 7 0 8 rfl (by decide)⟩)))
            have hne : ¬ nI d = -1 := fun h => by
              have h5 := nI_pos (n := d) (by omega)
              rw [h] at h5
              exact h5 (by decide)
            have il : vp_in (nI (7 * c + d)) 14 := vp_in_nI (by omega) (by decide)
            have ec : (nI (7 * c + d)).toNatClampNeg = 7 * c + d := nI_clamp (by omega)
            refine br_f hne (nm_r (ix_7 c d) ?_)
            rw [ec]
            refine ⟨il, nm_e ⟨il, nm_e ⟨il, nm_e ⟨il, nm_e ⟨vp_in_nI hc (by decide), vp_in_nI hc (by decide), nm_r (e' := upd pr c (nI (M c ||| 2 ^ d))) ?_ ?_⟩⟩⟩⟩⟩
            · rw [nI_clamp (by omega), m1, (bs_set _ m2 d hd).1]
            · refine ya_net hc ht (fun n => absurd ⟨⟨g, hg, eg⟩, ⟨x, hx, ex⟩, ⟨y, hy, ey⟩⟩ n) (fun _ => ⟨8, ya_57 hc hd (fun j hj => by rw [← m3 j (by omega)]; exact hlt j hj) (by rw [← m3 d hd]; exact hbit) ⟨rfl, ?_⟩ d 0 8 (by omega) (by omega)⟩)
              rw [eg, ex, ey]
              exact rl_mk (rl_add C hc hd ht hg hx hy)
          · exact nm_r eg (nm_r ex (nm_e (ne_X hg (br_f (by decide) (ne_X hx (br_f (by decide) (n2 _ (br_t rfl (bad (fun z => n1 z.2.2))))))))))
        · exact nm_r eg (nm_e (nm_e (ne_X hg (br_f (by decide) (n2 _ (br_t rfl (bad (fun z => n1 z.2.1))))))))
      · exact nm_e (nm_e (nm_e (n2 _ (br_t rfl (bad (fun z => n1 z.1))))))
  · unfold wpX_add
    refine nx _ (br_t rfl ?_)
    unfold wpY_add
    exact ny _ _ _ _ _ _ _ _ (br_t rfl ⟨rfl, rl_mk C⟩)
theorem i_vc_remove {k : Nat} {u : SX} {v : SY} (I : i_Rel k u v) (hk : k + 4 ≤ 2048) (v1 : Int32) (v2 : Int32) : wpX_remove (fun r u' => wpY_remove (fun r' v' => r' = r ∧ i_Rel (k + 4) u' v') v v1 v2) u v1 v2 := by
  obtain ⟨fd, nm, ty, ga, xs, ys, pr, tr, fm, im, th, nn, to, T, G, X, Y, M, C, rfl, rfl⟩ := I
  unfold wpX_remove wpY_remove
  dsimp only
  rcases ci_no v1 with ⟨c, hc, rfl⟩ | ⟨nx, ny⟩
  · obtain ⟨m1, m2, m3⟩ := C.2.2 c hc
    rcases pk_ix v2 (n := 7) (by omega) with h | h | ⟨d, hd, rfl⟩
    · exact ci_X hc (br_f (by decide) (br_t h (ci_Y hc (br_f (by decide) (br_t h ⟨rfl, rl_mk C⟩)))))
    · have h' : (7 : Int32) ≤ v2 := h
      have z : ¬ v2 < 0 := fun e => absurd (Int32.lt_of_le_of_lt h' e) (by decide)
      have w : (6 : Int32) < v2 := Int32.lt_of_lt_of_le (by decide) h'
      exact ci_X hc (br_f (by decide) (br_f z (br_t h' (ci_Y hc (br_f (by decide) (br_f z (br_t w ⟨rfl, rl_mk C⟩)))))))
    · have il : vp_in (nI (7 * c + d)) 14 := vp_in_nI (by omega) (by decide)
      have ic : vp_in (nI c) 2 := vp_in_nI hc (by decide)
      have ec : (nI (7 * c + d)).toNatClampNeg = 7 * c + d := nI_clamp (by omega)
      have p0 : ¬ nI d < 0 := nI_pos (by omega)
      have p6 : ¬ (6 : Int32) < nI d := nI_nlt (a := 6) (by omega) (by decide)
      rw [ix_7']
      refine ci_X hc (br_f (by decide) (br_f p0 (br_f (nI_ge (b := 7) hd (by decide)) ⟨ic, ?_⟩)))
      rw [cm_at (by omega) m1]
      refine hb_X m2 hd (fun hbit => br_f (by decide) ⟨ic, ic, nm_r (e' := upd pr c (nI (bs_clr (M c) d))) ?_ ?_⟩) (fun hbit => br_t rfl ?_)
      · rw [nI_clamp (by omega), (bs_clrI _ m2 d hd).1]
      · refine ci_Y hc (br_f (by decide) (br_f p0 (br_f p6 ⟨il, ek_if (th_f (by omega)) (fun e => absurd hbit (th_cl (by rw [m3 d hd]; exact e))) (fun e => ⟨il, nm_r (e' := upd th (7 * c + d) 0) (by rw [ec, sp_v0]) ⟨rfl, rl_mk (rl_rem C hc hd)⟩⟩)⟩)))
      · exact ci_Y hc (br_f (by decide) (br_f p0 (br_f p6 ⟨il, ek_if (th_f (by omega)) (fun e => ⟨rfl, rl_mk C⟩) (fun e => absurd (by rw [← m3 d hd]; exact hbit) e)⟩)))
  · exact nx _ (br_t rfl (ny _ _ _ _ _ _ _ _ (br_t rfl ⟨rfl, rl_mk C⟩)))
theorem nc_i (v : Int32) : (v = -1 → ¬ v < -1 ∧ v ≤ 3) ∧ (¬ v < 0 → ¬ v < -1) ∧ (v < 4 ↔ v ≤ 3) ∧ (¬ v = -1 → v < 0 → v < -1) := by
  have a : (-1 : Int32).toInt = -1 := by decide
  have b : (0 : Int32).toInt = 0 := by decide
  have c : (3 : Int32).toInt = 3 := by decide
  have d : (4 : Int32).toInt = 4 := by decide
  have e : v = -1 ↔ v.toInt = -1 := by rw [← a, Int32.toInt_inj]
  rw [e]
  simp only [Int32.lt_iff_toInt_lt, Int32.le_iff_toInt_le, a, b, c, d]
  omega
theorem i_vc_name {k : Nat} {u : SX} {v : SY} (I : i_Rel k u v) (hk : k + 4 ≤ 2048) (v1 : Int32) (v2 : Int32) (v3 : Int32) : wpX_name (fun r u' => wpY_name (fun r' v' => r' = r ∧ i_Rel (k + 4) u' v') v v1 v2 v3) u v1 v2 v3 := by
  obtain ⟨fd, nm, ty, ga, xs, ys, pr, tr, fm, im, th, nn, to, T, G, X, Y, M, C, rfl, rfl⟩ := I
  unfold wpX_name wpY_name
  dsimp only
  rcases ci_no v1 with ⟨c, hc, rfl⟩ | ⟨nx, ny⟩
  · rcases ne_no v2 with ⟨i, hi, rfl⟩ | ⟨nx, ny⟩
    · obtain ⟨q1, q2, q3, q4⟩ := nc_i v3
      have il : vp_in (nI (6 * c + i)) 12 := vp_in_nI (by omega) (by decide)
      have ec : (nI (6 * c + i)).toNatClampNeg = 6 * c + i := nI_clamp (by omega)
      rw [ix_6']
      have good : ¬ v3 < -1 → v3 ≤ 3 → wX_name_32 (fun r u' => wpY_circuit (fun r_1 => (r_1 = 0 → 0 = r ∧ i_Rel (k + 4) u' (th, ty, ga, xs, ys, nn, to)) ∧ (¬ r_1 = 0 → wpY_net (fun r_10 => (r_10 = 0 → 0 = r ∧ i_Rel (k + 4) u' (th, ty, ga, xs, ys, nn, to)) ∧ (¬ r_10 = 0 → (v3 < -1 → 0 = r ∧ i_Rel (k + 4) u' (th, ty, ga, xs, ys, nn, to)) ∧ (¬ v3 < -1 → (v3 ≤ 3 → vp_in (nI (6 * c + i)) 12 ∧ ∀ a_names_22 : Nat → Int32, a_names_22 = upd nn (nI (6 * c + i)).toNatClampNeg (v3 + 1) → 1 = r ∧ i_Rel (k + 4) u' (th, ty, ga, xs, ys, a_names_22, to)) ∧ (¬ v3 ≤ 3 → 0 = r ∧ i_Rel (k + 4) u' (th, ty, ga, xs, ys, nn, to))))) (th, ty, ga, xs, ys, nn, to) (nI i))) (th, ty, ga, xs, ys, nn, to) (nI c)) (nI c) (nI i) v3 fd nm ty ga xs ys pr tr fm im := fun g1 g2 => by
        unfold wX_name_32
        rw [ix_6]
        refine ⟨il, nm_r (e' := upd nm (6 * c + i) v3) (by rw [ec]) ?_⟩
        exact ci_Y hc (br_f (by decide) (ne_Y hi (br_f (by decide) (br_f g1 (br_t g2 ⟨il, nm_r (e' := upd nn (6 * c + i) (v3 + 1)) (by rw [ec]) ⟨rfl, rl_mk (rl_name C)⟩⟩)))))
      refine ci_X hc (br_f (by decide) (ne_X hi (br_f (by decide) (br_c (fun h => good (q1 h).1 (q1 h).2) (fun h => br_c (fun h2 => ?_) (fun h2 => br_c (fun h3 => good (q2 h2) (q3.mp h3)) (fun h3 => ?_)))))))
      · exact ci_Y hc (br_f (by decide) (ne_Y hi (br_f (by decide) (br_t (q4 h h2) ⟨rfl, rl_mk C⟩))))
      · exact ci_Y hc (br_f (by decide) (ne_Y hi (br_f (by decide) (br_f (q2 h2) (br_f (fun z => h3 (q3.mpr z)) ⟨rfl, rl_mk C⟩)))))
    · exact ci_X hc (br_f (by decide) (nx _ (br_t rfl (ci_Y hc (br_f (by decide) (ny _ _ _ _ _ _ _ _ (br_t rfl ⟨rfl, rl_mk C⟩)))))))
  · exact nx _ (br_t rfl (ny _ _ _ _ _ _ _ _ (br_t rfl ⟨rfl, rl_mk C⟩)))
theorem i_vc_devices {k : Nat} {u : SX} {v : SY} (I : i_Rel k u v) (hk : k + 4 ≤ 2048) (v1 : Int32) : wpX_devices (fun r => wpY_devices (fun r' => r' = r ∧ i_Rel (k + 4) u v) v v1) u v1 := by
  obtain ⟨fd, nm, ty, ga, xs, ys, pr, tr, fm, im, th, nn, to, T, G, X, Y, M, C, rfl, rfl⟩ := I
  rcases ci_no v1 with ⟨c, hc, rfl⟩ | ⟨nx, ny⟩
  · obtain ⟨m1, m2, m3⟩ := C.2.2 c hc
    have e : dm_m (th_H th) c 7 = M c := bs_ext _ (dm_lt 7 (Nat.le_refl 7)) _ m2 (fun j hj => by rw [dm_T hj 7 (Nat.le_refl 7), m3 j hj, decide_eq_true hj, Bool.true_and])
    unfold wpX_devices
    refine ci_X hc (br_f (by decide) ⟨vp_in_nI hc (by decide), ?_⟩)
    rw [cm_at (by omega) m1]
    exact yl_dev hc (fun j _ => rfl) ⟨by rw [e], rl_mk C⟩
  · unfold wpX_devices
    refine nx _ (br_t rfl ⟨1, ?_⟩)
    exact br_f (by decide) (ny _ _ _ _ _ _ _ _ (br_t rfl ⟨rfl, rl_mk C⟩))
theorem i_vc_degree {k : Nat} {u : SX} {v : SY} (I : i_Rel k u v) (hk : k + 4 ≤ 2048) (v1 : Int32) (v2 : Int32) : wpX_degree (fun r => wpY_degree (fun r' => r' = r ∧ i_Rel (k + 4) u v) v v1 v2) u v1 v2 := by
  obtain ⟨fd, nm, ty, ga, xs, ys, pr, tr, fm, im, th, nn, to, T, G, X, Y, M, C, rfl, rfl⟩ := I
  rcases ci_no v1 with ⟨c, hc, rfl⟩ | ⟨nx, ny⟩
  · rcases ne_no v2 with ⟨i, hi, rfl⟩ | ⟨nx, ny⟩
    · obtain ⟨m1, m2, m3⟩ := C.2.2 c hc
      exact xl_deg (H := th_H th) C.1 hc hi m2 m1 m3 (yl_deg (H := th_H th) C.1 hc hi (fun j _ => rfl) ⟨rfl, rl_mk C⟩)
    · unfold wpX_degree wpY_degree
      exact ci_X hc (br_f (by decide) (nx _ (br_t rfl (ci_Y hc (br_f (by decide) (ny _ _ _ _ _ _ _ _ (br_t rfl ⟨rfl, rl_mk C⟩)))))))
  · unfold wpX_degree wpY_degree
    exact nx _ (br_t rfl (ny _ _ _ _ _ _ _ _ (br_t rfl ⟨rfl, rl_mk C⟩)))
theorem i_vc_match {k : Nat} {u : SX} {v : SY} (I : i_Rel k u v) (hk : k + 4 ≤ 2048) : wpX_match (fun r u' => wpY_match (fun r' v' => r' = r ∧ i_Rel (k + 4) u' v') v) u := by
  obtain ⟨fd, nm, ty, ga, xs, ys, pr, tr, fm, im, th, nn, to, T, G, X, Y, M, C, rfl, rfl⟩ := I
  obtain ⟨a1, a2, a3⟩ := C.2.2 0 (by decide)
  obtain ⟨b1, b2, b3⟩ := C.2.2 1 (by decide)
  have FX : rl_X T G X Y nm (M 0) (M 1) 0 1 (rl_F T G X Y (th_H th) nn 0 1) := rl_FX (by decide) (by decide) C.2.1 a3 b3
  have FY : rl_Y T G X Y th nn 0 1 (rl_F T G X Y (th_H th) nn 0 1) := rl_FY (by decide) (by decide) (fun j _ => rfl)
  exact xl_match C.1 a2 b2 a1 b1 FX (fun p fd tr fm im => yl_match C.1 FY (fun _ to => ⟨rfl, rl_mk C⟩) (fun e to => absurd p (by omega))) (fun e fd tr fm im => yl_match C.1 FY (fun p to => absurd p (by omega)) (fun _ to => ⟨rfl, rl_mk C⟩))
theorem i_vc_assigned {k : Nat} {u : SX} {v : SY} (I : i_Rel k u v) (hk : k + 4 ≤ 2048) (v1 : Int32) : wpX_assigned (fun r u' => wpY_assigned (fun r' v' => r' = r ∧ i_Rel (k + 4) u' v') v v1) u v1 := by
  obtain ⟨fd, nm, ty, ga, xs, ys, pr, tr, fm, im, th, nn, to, T, G, X, Y, M, C, rfl, rfl⟩ := I
  rcases ne_no v1 with ⟨i, hi, rfl⟩ | ⟨nx, ny⟩
  · obtain ⟨a1, a2, a3⟩ := C.2.2 0 (by decide)
    obtain ⟨b1, b2, b3⟩ := C.2.2 1 (by decide)
    have FX : rl_X T G X Y nm (M 0) (M 1) 0 1 (rl_F T G X Y (th_H th) nn 0 1) := rl_FX (by decide) (by decide) C.2.1 a3 b3
    have FY : rl_Y T G X Y th nn 0 1 (rl_F T G X Y (th_H th) nn 0 1) := rl_FY (by decide) (by decide) (fun j _ => rfl)
    exact xl_assigned hi C.1 a2 b2 a1 b1 FX (fun c hc fd tr fm im => yl_assigned C.1 FY hi (fun d to hd => ⟨by rw [pf_uniq hd hc], rl_mk C⟩) (fun e to => absurd (pf_some hc) (by omega))) (fun e fd tr fm im => yl_assigned C.1 FY hi (fun d to hd => absurd (pf_some hd) (by omega)) (fun _ to => ⟨rfl, rl_mk C⟩))
  · unfold wpX_assigned wpY_assigned
    exact nx _ (br_t rfl (ny _ _ _ _ _ _ _ _ (br_t rfl ⟨rfl, rl_mk C⟩)))
theorem i_vc_matches {k : Nat} {u : SX} {v : SY} (I : i_Rel k u v) (hk : k + 4 ≤ 2048) : wpX_matches (fun r u' => wpY_matches (fun r' v' => r' = r ∧ i_Rel (k + 4) u' v') v) u := by
  obtain ⟨fd, nm, ty, ga, xs, ys, pr, tr, fm, im, th, nn, to, T, G, X, Y, M, C, rfl, rfl⟩ := I
  obtain ⟨a1, a2, a3⟩ := C.2.2 0 (by decide)
  obtain ⟨b1, b2, b3⟩ := C.2.2 1 (by decide)
  have FX : rl_X T G X Y nm (M 0) (M 1) 0 1 (rl_F T G X Y (th_H th) nn 0 1) := rl_FX (by decide) (by decide) C.2.1 a3 b3
  have FY : rl_Y T G X Y th nn 0 1 (rl_F T G X Y (th_H th) nn 0 1) := rl_FY (by decide) (by decide) (fun j _ => rfl)
  exact xl_matches C.1 a2 b2 a1 b1 FX (fun fd tr fm im => yl_matches C.1 FY (fun to => ⟨rfl, rl_mk C⟩))
theorem i_vc_candidates {k : Nat} {u : SX} {v : SY} (I : i_Rel k u v) (hk : k + 4 ≤ 2048) (v1 : Int32) : wpX_candidates (fun r u' => wpY_candidates (fun r' v' => r' = r ∧ i_Rel (k + 4) u' v') v v1) u v1 := by
  obtain ⟨fd, nm, ty, ga, xs, ys, pr, tr, fm, im, th, nn, to, T, G, X, Y, M, C, rfl, rfl⟩ := I
  rcases ne_no v1 with ⟨i, hi, rfl⟩ | ⟨nx, ny⟩
  · obtain ⟨a1, a2, a3⟩ := C.2.2 0 (by decide)
    obtain ⟨b1, b2, b3⟩ := C.2.2 1 (by decide)
    have FX : rl_X T G X Y nm (M 0) (M 1) 0 1 (rl_F T G X Y (th_H th) nn 0 1) := rl_FX (by decide) (by decide) C.2.1 a3 b3
    have FY : rl_Y T G X Y th nn 0 1 (rl_F T G X Y (th_H th) nn 0 1) := rl_FY (by decide) (by decide) (fun j _ => rfl)
    exact xl_cand hi C.1 a2 b2 a1 b1 FX (fun fd tr fm im => yl_cand C.1 FY hi (fun to => ⟨rfl, rl_mk C⟩))
  · unfold wpX_candidates
    refine nx _ (br_t rfl ⟨1, ?_⟩)
    exact br_f (by decide) (ny _ _ _ _ _ _ _ _ (br_t rfl ⟨rfl, rl_mk C⟩))
theorem i_vc_symmetries {k : Nat} {u : SX} {v : SY} (I : i_Rel k u v) (hk : k + 4 ≤ 2048) (v1 : Int32) : wpX_symmetries (fun r u' => wpY_symmetries (fun r' v' => r' = r ∧ i_Rel (k + 4) u' v') v v1) u v1 := by
  obtain ⟨fd, nm, ty, ga, xs, ys, pr, tr, fm, im, th, nn, to, T, G, X, Y, M, C, rfl, rfl⟩ := I
  rcases ci_no v1 with ⟨c, hc, rfl⟩ | ⟨nx, ny⟩
  · obtain ⟨a1, a2, a3⟩ := C.2.2 c hc
    have FX : rl_X T G X Y nm (M c) (M c) c c (rl_F T G X Y (th_H th) nn c c) := rl_FX hc hc C.2.1 a3 a3
    have FY : rl_Y T G X Y th nn c c (rl_F T G X Y (th_H th) nn c c) := rl_FY hc hc (fun j _ => rfl)
    exact xl_sym hc C.1 a2 a1 FX (fun fd tr fm im => yl_sym C.1 hc FY (fun to => ⟨rfl, rl_mk C⟩))
  · unfold wpX_symmetries
    refine nx _ (br_t rfl ⟨1, ?_⟩)
    refine br_f (by decide) (ny _ _ _ _ _ _ _ _ (br_t rfl ?_))
    unfold wY_symmetries_47
    exact ny _ _ _ _ _ _ _ _ (br_t rfl ⟨rfl, rl_mk C⟩)
theorem i_vc_exchangeable {k : Nat} {u : SX} {v : SY} (I : i_Rel k u v) (hk : k + 4 ≤ 2048) (v1 : Int32) (v2 : Int32) (v3 : Int32) : wpX_exchangeable (fun r u' => wpY_exchangeable (fun r' v' => r' = r ∧ i_Rel (k + 4) u' v') v v1 v2 v3) u v1 v2 v3 := by
  obtain ⟨fd, nm, ty, ga, xs, ys, pr, tr, fm, im, th, nn, to, T, G, X, Y, M, C, rfl, rfl⟩ := I
  rcases ci_no v1 with ⟨c, hc, rfl⟩ | ⟨nx, ny⟩
  · rcases ne_no v2 with ⟨i, hi, rfl⟩ | ⟨nx, ny⟩
    · rcases ne_no v3 with ⟨j, hj, rfl⟩ | ⟨nx, ny⟩
      · obtain ⟨a1, a2, a3⟩ := C.2.2 c hc
        have FX : rl_X T G X Y nm (M c) (M c) c c (rl_F T G X Y (th_H th) nn c c) := rl_FX hc hc C.2.1 a3 a3
        have FY : rl_Y T G X Y th nn c c (rl_F T G X Y (th_H th) nn c c) := rl_FY hc hc (fun j _ => rfl)
        exact xl_exch hc hi hj C.1 a2 a1 FX (fun p fd tr fm im => yl_exch C.1 hc hi hj FY (fun _ to => ⟨rfl, rl_mk C⟩) (fun n to => absurd p n)) (fun n fd tr fm im => yl_exch C.1 hc hi hj FY (fun p to => absurd p n) (fun _ to => ⟨rfl, rl_mk C⟩))
      · unfold wpX_exchangeable
        refine ci_X hc (br_f (by decide) (ne_X hi (br_f (by decide) (nx _ (br_t rfl ⟨1, ?_⟩)))))
        exact br_f (by decide) (ci_Y hc (br_f (by decide) (ne_Y hi (br_f (by decide) (ny _ _ _ _ _ _ _ _ (br_t rfl ⟨rfl, rfl, rl_mk C⟩))))))
    · unfold wpX_exchangeable
      refine ci_X hc (br_f (by decide) (nx _ (br_t rfl ⟨1, ?_⟩)))
      exact br_f (by decide) (ci_Y hc (br_f (by decide) (ny _ _ _ _ _ _ _ _ (br_t rfl ⟨rfl, rfl, rl_mk C⟩))))
  · unfold wpX_exchangeable
    refine nx _ (br_t rfl ⟨1, ?_⟩)
    exact br_f (by decide) (ny _ _ _ _ _ _ _ _ (br_t rfl ⟨rfl, rfl, rl_mk C⟩))
theorem i_vc_surplus {k : Nat} {u : SX} {v : SY} (I : i_Rel k u v) (hk : k + 4 ≤ 2048) : wpX_surplus (fun r u' => wpY_surplus (fun r' v' => r' = r ∧ i_Rel (k + 4) u' v') v) u := by
  obtain ⟨fd, nm, ty, ga, xs, ys, pr, tr, fm, im, th, nn, to, T, G, X, Y, M, C, rfl, rfl⟩ := I
  obtain ⟨a1, a2, a3⟩ := C.2.2 0 (by decide)
  obtain ⟨b1, b2, b3⟩ := C.2.2 1 (by decide)
  have FX : ∀ d, d < 7 → rl_X T G X Y nm (bs_clr (M 0) d) (M 1) 0 1 (rl_F T G X Y (fun j => th_H th j && !(j == d)) nn 0 1) := fun d hd => rl_FX (by decide) (by decide) C.2.1 (fun j hj => by
    rw [bs_clrT _ a2 d hd j hj, a3 j hj]
    simp) (fun j hj => by
    have q : (7 * 1 + j == d) = false := by rw [beq_eq_false_iff_ne]; omega
    rw [b3 j hj, q]
    simp)
  have FY : ∀ d, d < 7 → ∀ th' : Nat → Int32, (∀ j, j < 14 → th_H th' j = (th_H th j && !(j == d))) → rl_Y T G X Y th' nn 0 1 (rl_F T G X Y (fun j => th_H th j && !(j == d)) nn 0 1) := fun d hd th' h => rl_FY (by decide) (by decide) h
  refine xl_surp (H := th_H th) (FF := fun d => rl_F T G X Y (fun j => th_H th j && !(j == d)) nn 0 1) C.1 a2 b2 a1 b1 (fun d hd => by rw [a3 d hd]; simp) FX (fun fd tr fm im => ?_)
  refine yl_surp (H := th_H th) (FF := fun d => rl_F T G X Y (fun j => th_H th j && !(j == d)) nn 0 1) C.1 FY (fun j _ => rfl) (fun th' to hth => ⟨rfl, rl_mk ⟨C.1, C.2.1, fun c hc => ⟨(C.2.2 c hc).1, (C.2.2 c hc).2.1, fun d hd => ?_⟩⟩⟩)
  rw [hth _ (by omega)]
  exact (C.2.2 c hc).2.2 d hd
