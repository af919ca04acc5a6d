/-! numbers and places -/
theorem ix_7 (c d : Nat) : nI c * 7 + nI d = nI (7 * c + d) := by
  rw [show (7 : Int32) = nI 7 from rfl, pk_mul, nI_add, Nat.mul_comm]
theorem ix_7' (c d : Nat) : 7 * nI c + nI d = nI (7 * c + d) := by
  rw [show (7 : Int32) = nI 7 from rfl, pk_mul, nI_add]
theorem ix_6 (c d : Nat) : nI c * 6 + nI d = nI (6 * c + d) := by
  rw [show (6 : Int32) = nI 6 from rfl, pk_mul, nI_add, Nat.mul_comm]
theorem ix_6' (c d : Nat) : 6 * nI c + nI d = nI (6 * c + d) := by
  rw [show (6 : Int32) = nI 6 from rfl, pk_mul, nI_add]
theorem cm_at {a : Nat → Int32} {l v : Nat} (hl : l < 100) (ea : a l = nI v) : a (nI l).toNatClampNeg = nI v := by
  rw [nI_clamp (by omega)]
  exact ea
theorem cm_eq {x y : Int32} {p q : Nat} (ex : x = nI p) (ey : y = nI q) (hp : p < 100) (hq : q < 100) : x = y ↔ p = q := by
  rw [ex, ey, nI_eq (by omega) (by omega)]
theorem cm_in {x : Int32} {p n : Nat} (ex : x = nI p) (hp : p < n) (hn : n < 100) : vp_in x n := by
  rw [ex]
  exact vp_in_nI hp (by omega)
/-- the device arrays, by naturals -/
def dv_A (ty ga xs ys : Nat → Int32) (T G X Y : Nat → Nat) : Prop := (∀ j, ty j = nI (T j) ∧ ga j = nI (G j) ∧ xs j = nI (X j) ∧ ys j = nI (Y j)) ∧ dv_ok T G X Y
section DEVA
variable {ty ga xs ys : Nat → Int32} {T G X Y : Nat → Nat}
theorem dv_T (h : dv_A ty ga xs ys T G X Y) {l : Nat} (hl : l < 100) : ty (nI l).toNatClampNeg = nI (T l) := cm_at hl (h.1 l).1
theorem dv_G (h : dv_A ty ga xs ys T G X Y) {l : Nat} (hl : l < 100) : ga (nI l).toNatClampNeg = nI (G l) := cm_at hl (h.1 l).2.1
theorem dv_X (h : dv_A ty ga xs ys T G X Y) {l : Nat} (hl : l < 100) : xs (nI l).toNatClampNeg = nI (X l) := cm_at hl (h.1 l).2.2.1
theorem dv_Y (h : dv_A ty ga xs ys T G X Y) {l : Nat} (hl : l < 100) : ys (nI l).toNatClampNeg = nI (Y l) := cm_at hl (h.1 l).2.2.2
theorem dv_bT (h : dv_A ty ga xs ys T G X Y) (l : Nat) : T l < 100 := Nat.lt_of_lt_of_le (h.2 l).1 (by decide)
theorem dv_bG (h : dv_A ty ga xs ys T G X Y) (l : Nat) : G l < 100 := Nat.lt_of_lt_of_le (h.2 l).2.1 (by decide)
theorem dv_bX (h : dv_A ty ga xs ys T G X Y) (l : Nat) : X l < 100 := Nat.lt_of_lt_of_le (h.2 l).2.2.1 (by decide)
theorem dv_bY (h : dv_A ty ga xs ys T G X Y) (l : Nat) : Y l < 100 := Nat.lt_of_lt_of_le (h.2 l).2.2.2 (by decide)
end DEVA
/-- a device is there -/
def th_H (th : Nat → Int32) (j : Nat) : Bool := !(th j == 0)
theorem th_f {th : Nat → Int32} {l : Nat} (hl : l < 100) : th (nI l).toNatClampNeg = 0 ↔ th_H th l = false := by
  rw [nI_clamp (by omega)]
  unfold th_H
  cases hb : (th l == 0)
  · rw [beq_eq_false_iff_ne] at hb
    simp [hb]
  · rw [beq_iff_eq] at hb
    simp [hb]
theorem th_nf {x : Bool} (h : ¬ x = false) : x = true := by cases x <;> simp_all
theorem th_nt {x : Bool} (h : ¬ x = true) : x = false := by cases x <;> simp_all
theorem th_cl {x : Bool} (h : x = false) : ¬ x = true := by rw [h]; decide
/-! who is a circuit, who is a net -/
theorem ci_X {post : Int32 → Prop} {c : Nat} (hc : c < 2) (h : post 1) : wpX_isCircuit post (nI c) :=
  br_f (nI_pos (by omega)) (br_f (nI_ge (b := 2) hc (by decide)) h)
theorem ci_Y {post : Int32 → Prop} {c : Nat} {th ty ga xs ys nn to : Nat → Int32} (hc : c < 2) (h : post 1) : wpY_circuit post (th, ty, ga, xs, ys, nn, to) (nI c) := by
  rcases (show c = 0 ∨ c = 1 by omega) with e | e
  · rw [e]; exact br_t rfl h
  · rw [e]; exact br_f (by decide) (br_t rfl h)
theorem ci_no (p : Int32) : (∃ c, c < 2 ∧ p = nI c) ∨ ((∀ post : Int32 → Prop, post 0 → wpX_isCircuit post p) ∧ ∀ (post : Int32 → Prop) (th ty ga xs ys nn to : Nat → Int32), post 0 → wpY_circuit post (th, ty, ga, xs, ys, nn, to) p) := by
  rcases pk_ix p (n := 2) (by omega) with h | h | h
  · right
    have a : ¬ p = 0 := fun e => by rw [e] at h; exact absurd h (by decide)
    have b : ¬ p = 1 := fun e => by rw [e] at h; exact absurd h (by decide)
    exact ⟨fun post h0 => br_t h h0, fun post _ _ _ _ _ _ _ h0 => br_f a (br_f b h0)⟩
  · right
    have h' : (2 : Int32) ≤ p := h
    have z : ¬ p < 0 := fun e => absurd (Int32.lt_of_le_of_lt h' e) (by decide)
    have a : ¬ p = 0 := fun e => by rw [e] at h'; exact absurd h' (by decide)
    have b : ¬ p = 1 := fun e => by rw [e] at h'; exact absurd h' (by decide)
    exact ⟨fun post h0 => br_f z (br_t h' h0), fun post _ _ _ _ _ _ _ h0 => br_f a (br_f b h0)⟩
  · exact Or.inl h
theorem ne_X {post : Int32 → Prop} {c : Nat} (hc : c < 6) (h : post 1) : wpX_isNet post (nI c) :=
  br_f (nI_pos (by omega)) (br_f (nI_ge (b := 6) hc (by decide)) h)
theorem ne_Y {post : Int32 → Prop} {c : Nat} {th ty ga xs ys nn to : Nat → Int32} (hc : c < 6) (h : post 1) : wpY_net post (th, ty, ga, xs, ys, nn, to) (nI c) :=
  br_f (nI_pos (by omega)) (br_f (nI_nlt (a := 5) (by omega) (by decide)) h)
theorem ne_no (p : Int32) : (∃ c, c < 6 ∧ p = nI c) ∨ ((∀ post : Int32 → Prop, post 0 → wpX_isNet post p) ∧ ∀ (post : Int32 → Prop) (th ty ga xs ys nn to : Nat → Int32), post 0 → wpY_net post (th, ty, ga, xs, ys, nn, to) p) := by
  rcases pk_ix p (n := 6) (by omega) with h | h | h
  · right
    exact ⟨fun post h0 => br_t h h0, fun post _ _ _ _ _ _ _ h0 => br_t h h0⟩
  · right
    have h' : (6 : Int32) ≤ p := h
    have z : ¬ p < 0 := fun e => absurd (Int32.lt_of_le_of_lt h' e) (by decide)
    have a : (5 : Int32) < p := Int32.lt_of_lt_of_le (by decide) h'
    exact ⟨fun post h0 => br_f z (br_t h' h0), fun post _ _ _ _ _ _ _ h0 => br_f z (br_t a h0)⟩
  · exact Or.inl h
theorem hb_X {post : Int32 → Prop} {m d : Nat} (hm : m < 128) (hd : d < 7) (h1 : m.testBit d = true → post 1) (h0 : m.testBit d = false → post 0) : wpX_hasBit post (nI m) (nI d) := by
  unfold wpX_hasBit
  rw [bs_has m hm d hd]
  cases hb : m.testBit d
  · exact br_f (by decide) (h0 hb)
  · exact br_t (by decide) (h1 hb)
/-! the reference: spelling an assignment -/
theorem yw_free5 {post : Int32 → Prop} {u s : Nat} {th ty ga xs ys nn to : Nat → Int32} (hu : u < 128) (hs : s < 1000) : ∀ f j n m, j + f = 6 → n ≤ j → f < m → post (nI (nt_fr u s f j n)) → wY_free_5 post (nI u) (nI s) th ty ga xs ys nn to m (nI n) (nI j) := by
  intro f
  induction f with
  | zero =>
    intro j n m hj hn hm hp
    obtain ⟨k, rfl⟩ : ∃ k, m = k + 1 := ⟨m - 1, by omega⟩
    have e : j = 6 := by omega
    rw [e]
    exact br_t (by decide) hp
  | succ f ih =>
    intro j n m hj hn hm hp
    obtain ⟨k, rfl⟩ : ∃ k, m = k + 1 := ⟨m - 1, by omega⟩
    have hjj : j < 6 := by omega
    refine br_f (nI_ge (b := 6) hjj (by decide)) ?_
    rw [bs_has u hu j (by omega)]
    simp only [nt_fr] at hp
    cases hb : u.testBit j
    · rw [hb, if_pos rfl] at hp
      refine br_t (by decide) (pk_eq n s (fun e => ?_) (fun e => ?_) rfl rfl (by omega) (by omega))
      · rw [if_pos e] at hp
        exact hp
      · rw [if_neg e] at hp
        exact nm_r (nI_1 n) (nm_r (nI_1 j) (ih (j + 1) (n + 1) k (by omega) (by omega) (by omega) hp))
    · rw [hb, if_neg (by decide)] at hp
      exact br_f (by decide) (nm_r (nI_1 j) (ih (j + 1) n k (by omega) (by omega) (by omega) hp))
theorem yw_free {post : Int32 → Prop} {u s : Nat} {th ty ga xs ys nn to : Nat → Int32} (hu : u < 128) (hs : s < 1000) (hp : post (nI (nt_fr u s 6 0 0))) : wpY_free post (th, ty, ga, xs, ys, nn, to) (nI u) (nI s) :=
  ⟨7, yw_free5 hu hs 6 0 0 7 rfl (Nat.le_refl 0) (by decide) hp⟩
theorem yw_spell12 {post : SY → Prop} {c : Nat} {th ty ga xs ys nn : Nat → Int32} (hc : c < 720) (hp : ∀ to : Nat → Int32, (∀ i, i < 6 → to i = nI (nt_P c i)) → post (th, ty, ga, xs, ys, nn, to)) : ∀ f k m (to : Nat → Int32), k + f = 6 → f < m → (∀ i, i < k → to i = nI (nt_P c i)) → wY_spell_12 post m (nI (nt_used c k)) (nI (nt_rest c k)) (nI (nt_blk k)) (nI k) th ty ga xs ys nn to := by
  intro f
  induction f with
  | zero =>
    intro k m to hk hm ht
    obtain ⟨m, rfl⟩ : ∃ j, m = j + 1 := ⟨m - 1, by omega⟩
    have e : k = 6 := by omega
    rw [e] at ht ⊢
    exact br_t (by decide) (hp to ht)
  | succ f ih =>
    intro k m to hk hm ht
    obtain ⟨m, rfl⟩ : ∃ j, m = j + 1 := ⟨m - 1, by omega⟩
    have hkk : k < 6 := by omega
    have e6 : (6 : Int32) - nI k = nI (6 - k) := pk_sub (a := 6) (by omega)
    obtain ⟨b1, b2, b3⟩ := nt_blk1 k hkk
    have b4 : nt_blk (k + 1) < 721 := by
      rw [← b1]
      exact Nat.lt_of_le_of_lt (Nat.div_le_self _ _) b3
    have r1 := nt_rest_lt c hc k (by omega)
    have u1 := nt_used_lt c hc k (by omega)
    have p1 := nt_lt c hc k hkk
    have ed : nI (nt_rest c k) / nI (nt_blk (k + 1)) = nI (nt_rest c k / nt_blk (k + 1)) := pk_div (by omega) b2 (by omega)
    have er : nI (nt_rest c k) - nI (nt_rest c k) / nI (nt_blk (k + 1)) * nI (nt_blk (k + 1)) = nI (nt_rest c (k + 1)) := pk_rem (by omega) b2 (by omega)
    have q1 : nt_rest c k / nt_blk (k + 1) < 1000 := Nat.lt_of_le_of_lt (Nat.div_le_self _ _) (by omega)
    refine br_f (nI_ge (b := 6) hkk (by decide)) ⟨by rw [e6]; exact nI_ne0 (by omega) (by omega), nm_r (e' := nI (nt_blk (k + 1))) (by rw [e6, pk_div (by omega) (by omega) (by omega), b1]) ?_⟩
    refine br_f (nI_nle b2 (by omega)) ⟨nI_ne0 b2 (by omega), ?_⟩
    refine br_f (nI_nle b2 (by omega)) ⟨nI_ne0 b2 (by omega), ?_⟩
    unfold wY_spell_57
    rw [er, ed]
    refine yw_free u1 q1 ?_
    rw [nt_spell c hc k hkk]
    refine nm_r (e' := nI (nt_used c (k + 1))) (bs_set _ u1 _ (by omega)).1 ⟨vp_in_nI hkk (by decide), nm_r (e' := upd to k (nI (nt_P c k))) (by rw [nI_clamp (by omega)]) (nm_r (nI_1 k) (ih (k + 1) m _ (by omega) (by omega) ?_))⟩
    intro i hi
    rcases Nat.lt_or_ge i k with z | z
    · rw [pk_un (by omega)]
      exact ht i z
    · have e : i = k := by omega
      rw [e, pk_us]
theorem yw_spell {post : SY → Prop} {c : Nat} {th ty ga xs ys nn to : Nat → Int32} (hc : c < 720) (hp : ∀ to : Nat → Int32, (∀ i, i < 6 → to i = nI (nt_P c i)) → post (th, ty, ga, xs, ys, nn, to)) : wpY_spell post (th, ty, ga, xs, ys, nn, to) (nI c) :=
  ⟨7, yw_spell12 hc hp 6 0 7 to rfl (by decide) (fun i h => absurd h (Nat.not_lt_zero i))⟩
