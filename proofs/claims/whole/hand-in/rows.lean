section
/-! pure rows to paste: stores, nI and lN arithmetic, masks, shifts, narrowing, branches by naturals (pk_le, pk_lt, pk_eq), loops (lp1 .. lp16: the measure of the state; rp1 ..: recursion), negatives. Take what you need -/
theorem pk_us {f : Nat → Int32} {k : Nat} {x : Int32} : upd f k x k = x := if_pos rfl
theorem pk_un {f : Nat → Int32} {k j : Nat} {x : Int32} (h : j ≠ k) : upd f k x j = f j := if_neg h
theorem pk_sub {a b : Nat} (h : b ≤ a) : nI a - nI b = nI (a - b) := by
  obtain ⟨c, rfl⟩ : ∃ c, a = c + b := ⟨a - b, by omega⟩
  rw [← nI_add, Int32.add_sub_cancel, Nat.add_sub_cancel]
theorem pk_m1 (n : Nat) : nI (n + 1) + (-1) = nI n := by
  rw [← nI_1, Int32.add_assoc, show (1 : Int32) + (-1) = 0 from rfl, Int32.add_zero]
theorem pk_mul (a b : Nat) : nI a * nI b = nI (a * b) := (Int32.ofNat_mul a b).symm
theorem pk_div {a d : Nat} (ha : a < 2 ^ 31) (h0 : 0 < d) (hd : d < 2 ^ 31) : nI a / nI d = nI (a / d) := by
  apply Int32.toInt_inj.mp
  rw [lg_idiv_nonneg (by rw [nI_toInt ha]; omega) (by rw [nI_toInt hd]; omega), nI_toInt ha, nI_toInt hd, nI_toInt (Nat.lt_of_le_of_lt (Nat.div_le_self a d) ha)]
  first | rfl | exact (Int.natCast_ediv _ _).symm
theorem pk_rem {a d : Nat} (ha : a < 2 ^ 31) (h0 : 0 < d) (hd : d < 2 ^ 31) : nI a - nI a / nI d * nI d = nI (a % d) := by
  rw [pk_div ha h0 hd, pk_mul, pk_sub (Nat.div_mul_le_self a d)]
  exact congrArg nI (by have := Nat.div_add_mod' a d; omega)
theorem pk_sub_toInt {a b : Nat} (ha : a < 2 ^ 30) (hb : b < 2 ^ 30) : (nI a - nI b).toInt = (a : Int) - b := by
  rw [Int32.toInt_sub, nI_toInt (by omega), nI_toInt (by omega)]
  exact Int.bmod_eq_of_le (by omega) (by omega)
theorem pk_sneg {a b : Nat} (hb : b < 2 ^ 30) (h : a < b) : nI a - nI b < 0 := by
  rw [Int32.lt_iff_toInt_lt, pk_sub_toInt (by omega) hb, show (0 : Int32).toInt = 0 from by decide]
  omega
theorem pk_ix (x : Int32) {n : Nat} (hn : n < 2 ^ 31) : x < 0 ∨ nI n ≤ x ∨ ∃ j : Nat, j < n ∧ x = nI j := by
  by_cases h : x < 0
  · exact Or.inl h
  · obtain ⟨j, hj, rfl⟩ := nI_of h
    by_cases h2 : j < n
    · exact Or.inr (Or.inr ⟨j, h2, rfl⟩)
    · exact Or.inr (Or.inl (nI_le (by omega) hj))
theorem pk_le {x y : Int32} {A B : Prop} (a b : Nat) (f : a ≤ b → A) (g : b < a → B) (hx : x = nI a := by rfl) (hy : y = nI b := by rfl) (ha : a < 2 ^ 31 := by omega) (hb : b < 2 ^ 31 := by omega) : (x ≤ y → A) ∧ (¬ x ≤ y → B) := by
  subst hx hy
  rw [nI_leI ha hb]
  exact ⟨f, fun z => g (by omega)⟩
theorem pk_lt {x y : Int32} {A B : Prop} (a b : Nat) (f : a < b → A) (g : b ≤ a → B) (hx : x = nI a := by rfl) (hy : y = nI b := by rfl) (ha : a < 2 ^ 31 := by omega) (hb : b < 2 ^ 31 := by omega) : (x < y → A) ∧ (¬ x < y → B) := by
  subst hx hy
  rw [nI_ltI ha hb]
  exact ⟨f, fun z => g (by omega)⟩
theorem pk_eq {x y : Int32} {A B : Prop} (a b : Nat) (f : a = b → A) (g : a ≠ b → B) (hx : x = nI a := by rfl) (hy : y = nI b := by rfl) (ha : a < 2 ^ 31 := by omega) (hb : b < 2 ^ 31 := by omega) : (x = y → A) ∧ (¬ x = y → B) := by
  subst hx hy
  rw [nI_eq ha hb]
  exact ⟨f, g⟩
theorem pk_in {x : Int32} (n N : Nat) (h : n < N) (hx : x = nI n := by rfl) (hN : N < 2 ^ 31 := by omega) : vp_in x N := by
  subst hx
  exact vp_in_nI h hN
theorem pk_cl {x : Int32} (n : Nat) (hx : x = nI n := by rfl) (h : n < 2 ^ 31 := by omega) : x.toNatClampNeg = n := by
  subst hx
  exact nI_clamp h
theorem pk_tn {n : Nat} (h : n < 2 ^ 32) : (nI n).toBitVec.toNat = n := Nat.mod_eq_of_lt h
theorem pk_and (x : Int32) {m : Int32} (k : Nat) (hm : m.toBitVec.toNat = 2 ^ k - 1) : x &&& m = nI (x.toBitVec.toNat % 2 ^ k) := by
  apply Int32.toBitVec_inj.mp
  apply BitVec.eq_of_toNat_eq
  rw [Int32.toBitVec_and, BitVec.toNat_and, hm, Nat.and_two_pow_sub_one_eq_mod]
  show _ = (BitVec.ofNat 32 _).toNat
  rw [BitVec.toNat_ofNat]
  exact (Nat.mod_eq_of_lt (Nat.lt_of_le_of_lt (Nat.mod_le _ _) x.toBitVec.isLt)).symm
theorem pk_andN {n : Nat} (h : n < 2 ^ 32) {m : Int32} (k : Nat) (hm : m.toBitVec.toNat = 2 ^ k - 1) : nI n &&& m = nI (n % 2 ^ k) := by
  rw [pk_and _ k hm, pk_tn h]
theorem pk_andE (x : Int32) {m : Int32} (k : Nat) (hm : m.toBitVec.toNat = 2 ^ k - 1) : ∃ j : Nat, j < 2 ^ k ∧ x &&& m = nI j := ⟨_, Nat.mod_lt _ (Nat.two_pow_pos k), pk_and x k hm⟩
theorem pk_andIn (x : Int32) {m : Int32} (k : Nat) (hm : m.toBitVec.toNat = 2 ^ k - 1) (hk : k ≤ 30) : vp_in (x &&& m) (2 ^ k) := by
  obtain ⟨j, hj, e⟩ := pk_andE x k hm
  rw [e]
  exact vp_in_nI hj (Nat.lt_of_le_of_lt (Nat.pow_le_pow_right (by decide) hk) (by decide))
theorem pk_shl (a s : Int32) (k : Nat) (hs : (s.toBitVec.smod 32).toNat = k) : (a <<< s).toBitVec.toNat = a.toBitVec.toNat * 2 ^ k % 2 ^ 32 := by
  show (a.toBitVec <<< (s.toBitVec.smod 32).toNat).toNat = _
  rw [hs, BitVec.toNat_shiftLeft, Nat.shiftLeft_eq]
theorem pk_shlN {n : Nat} (s : Int32) (k : Nat) (hs : (s.toBitVec.smod 32).toNat = k) (h : n * 2 ^ k < 2 ^ 32) : nI n <<< s = nI (n * 2 ^ k) := by
  apply Int32.toBitVec_inj.mp
  apply BitVec.eq_of_toNat_eq
  have hn : n < 2 ^ 32 := Nat.lt_of_le_of_lt (Nat.le_mul_of_pos_right n (Nat.two_pow_pos k)) h
  rw [pk_shl _ _ k hs, pk_tn hn, pk_tn h, Nat.mod_eq_of_lt h]
theorem pk_shr (a s : Int32) (k : Nat) (hs : (s.toBitVec.smod 32).toNat = k) : (a >>> s).toInt = a.toInt >>> k := by
  show (a.toBitVec.sshiftRight (s.toBitVec.smod 32).toNat).toInt = _
  rw [hs, BitVec.toInt_sshiftRight]
  rfl
theorem pk_shrN {n : Nat} (h : n < 2 ^ 31) (s : Int32) (k : Nat) (hs : (s.toBitVec.smod 32).toNat = k) : nI n >>> s = nI (n / 2 ^ k) := by
  apply Int32.toInt_inj.mp
  have h2 : n / 2 ^ k ≤ n := Nat.div_le_self _ _
  rw [pk_shr _ _ k hs, nI_toInt h, nI_toInt (by omega), Int.shiftRight_eq_div_pow]
  rfl
theorem pk_ushr (x s : Int32) (k : Nat) (hs : ((s.toUInt32 &&& Int32.toUInt32 31).toBitVec % 32).toNat = k) : (x.toUInt32 >>> (s.toUInt32 &&& Int32.toUInt32 31)).toInt32.toBitVec.toNat = x.toBitVec.toNat / 2 ^ k := by
  have e : (x.toUInt32 >>> (s.toUInt32 &&& Int32.toUInt32 31)).toInt32.toBitVec = x.toBitVec >>> k := by
    rw [← hs]
    exact UInt32.toBitVec_shiftRight _ _
  rw [e, BitVec.toNat_ushiftRight, Nat.shiftRight_eq_div_pow]
theorem pk_ushrN {n : Nat} (hn : n < 2 ^ 32) (s : Int32) (k : Nat) (hs : ((s.toUInt32 &&& Int32.toUInt32 31).toBitVec % 32).toNat = k) : ((nI n).toUInt32 >>> (s.toUInt32 &&& Int32.toUInt32 31)).toInt32 = nI (n / 2 ^ k) := by
  apply Int32.toBitVec_inj.mp
  apply BitVec.eq_of_toNat_eq
  rw [pk_ushr _ s k hs, pk_tn hn, pk_tn (Nat.lt_of_le_of_lt (Nat.div_le_self _ _) hn)]
theorem pk_loop {σ : Type} (W : Nat → Nat → σ → Prop) (I : Nat → σ → Prop) (e i0 : Nat) (s : σ) (hi : i0 ≤ e) (h0 : I i0 s) (hx : ∀ n s, I e s → W (n + 1) e s)
    (hs : ∀ n i s, i < e → I i s → (∀ s', I (i + 1) s' → W n (i + 1) s') → W (n + 1) i s) : ∃ n, W n i0 s :=
  ⟨e + 1, loop_i W I e hx hs (e + 1) i0 s hi (by omega) h0⟩
theorem pk_loopD {σ : Type} (W : Nat → Nat → σ → Prop) (I : Nat → σ → Prop) (hx : ∀ n s, I 0 s → W (n + 1) 0 s)
    (hs : ∀ n i s, I (i + 1) s → (∀ s', I i s' → W n i s') → W (n + 1) (i + 1) s) : ∀ (e : Nat) (s : σ), I e s → W (e + 1) e s := by
  intro e
  induction e with
  | zero => exact fun s h => hx 0 s h
  | succ e ih => exact fun s h => hs (e + 1) e s h (fun s' h' => ih s' h')
theorem ek_if {c d A B : Prop} (e : c ↔ d) (f : d → A) (g : ¬ d → B) : (c → A) ∧ (¬ c → B) :=
  ⟨fun z => f (e.mp z), fun z => g (fun y => z (e.mpr y))⟩
theorem ek_v {α : Sort _} {P : α → Prop} {a b : α} (e : a = b) (h : P b) : P a := e ▸ h
theorem sb_m1 {p : Nat} (h : 0 < p) : nI p + (-1) = nI (p - 1) := by
  obtain ⟨q, rfl⟩ : ∃ q, p = q + 1 := ⟨p - 1, by omega⟩
  exact pk_m1 q
theorem sb_at {P : Int32 → Prop} {x y : Int32} (e : x = y) (h : P y) : P x := e ▸ h
end
section
/-! counting devices by key; the greedy pairing and the counts -/
def pm_cnt (p : Nat → Bool) (k : Nat → Nat) (z : Nat) : Nat → Nat
  | 0 => 0
  | n + 1 => pm_cnt p k z n + (if p n = true ∧ k n = z then 1 else 0)
def pm_tot (p : Nat → Bool) : Nat → Nat
  | 0 => 0
  | n + 1 => pm_tot p n + (if p n = true then 1 else 0)
def pm_sum (f : Nat → Nat) : Nat → Nat
  | 0 => 0
  | n + 1 => pm_sum f n + f n
theorem pm_sum_add (f g : Nat → Nat) : ∀ B, pm_sum (fun z => f z + g z) B = pm_sum f B + pm_sum g B := by
  intro B
  induction B with
  | zero => rfl
  | succ B ih => simp only [pm_sum, ih]; omega
theorem pm_sum_0 : ∀ B, pm_sum (fun _ => 0) B = 0 := by
  intro B
  induction B with
  | zero => rfl
  | succ B ih => simp only [pm_sum, ih]
theorem pm_sum_ind (a : Nat) : ∀ B, pm_sum (fun z => if a = z then 1 else 0) B = if a < B then 1 else 0 := by
  intro B
  induction B with
  | zero => simp [pm_sum]
  | succ B ih =>
    simp only [pm_sum, ih]
    by_cases h1 : a < B
    · rw [if_pos h1, if_neg (by omega), if_pos (by omega)]
    · by_cases h2 : a = B
      · rw [if_neg h1, if_pos h2, if_pos (by omega)]
      · rw [if_neg h1, if_neg h2, if_neg (by omega)]
theorem pm_sum_cnt (p : Nat → Bool) (k : Nat → Nat) (B : Nat) : ∀ n, (∀ d, d < n → p d = true → k d < B) → pm_sum (fun z => pm_cnt p k z n) B = pm_tot p n := by
  intro n
  induction n with
  | zero => intro _; exact pm_sum_0 B
  | succ n ih =>
    intro h
    have e1 := ih (fun d hd => h d (by omega))
    have e2 : pm_sum (fun z => if p n = true ∧ k n = z then 1 else 0) B = (if p n = true then 1 else 0) := by
      cases hp : p n with
      | false => simp [pm_sum_0]
      | true =>
        have e3 := pm_sum_ind (k n) B
        rw [if_pos (h n (by omega) hp)] at e3
        simpa using e3
    show pm_sum (fun z => pm_cnt p k z n + (if p n = true ∧ k n = z then 1 else 0)) B = pm_tot p n + (if p n = true then 1 else 0)
    rw [pm_sum_add (fun z => pm_cnt p k z n) (fun z => if p n = true ∧ k n = z then 1 else 0), e1, e2]
theorem pm_sum_le {f g : Nat → Nat} : ∀ B, (∀ z, z < B → f z ≤ g z) → pm_sum f B ≤ pm_sum g B := by
  intro B
  induction B with
  | zero => intro _; exact Nat.le_refl _
  | succ B ih =>
    intro h
    have h1 := ih (fun z hz => h z (by omega))
    have h2 := h B (by omega)
    simp only [pm_sum]
    omega
theorem pm_sum_eq {f g : Nat → Nat} : ∀ B, (∀ z, z < B → f z ≤ g z) → pm_sum f B = pm_sum g B → ∀ z, z < B → f z = g z := by
  intro B
  induction B with
  | zero => intro _ _ z hz; omega
  | succ B ih =>
    intro h e z hz
    have h1 := pm_sum_le B (fun z hz => h z (by omega))
    have h2 := h B (by omega)
    simp only [pm_sum] at e
    rcases Nat.lt_or_ge z B with c | c
    · exact ih (fun z hz => h z (by omega)) (by omega) z c
    · have e2 : z = B := by omega
      rw [e2]
      omega
theorem pm_cnt_ex {p : Nat → Bool} {k : Nat → Nat} {z : Nat} : ∀ n, 0 < pm_cnt p k z n → ∃ d, d < n ∧ p d = true ∧ k d = z := by
  intro n
  induction n with
  | zero => intro h; exact absurd h (Nat.lt_irrefl 0)
  | succ n ih =>
    intro h
    by_cases c : p n = true ∧ k n = z
    · exact ⟨n, by omega, c⟩
    · simp only [pm_cnt, if_neg c] at h
      obtain ⟨d, h1, h2⟩ := ih h
      exact ⟨d, by omega, h2⟩
theorem pm_cnt_pos {p : Nat → Bool} {k : Nat → Nat} {z : Nat} : ∀ n d, d < n → p d = true → k d = z → 0 < pm_cnt p k z n := by
  intro n
  induction n with
  | zero => intro d h; omega
  | succ n ih =>
    intro d hd hp hk
    simp only [pm_cnt]
    rcases Nat.lt_or_ge d n with c | c
    · have := ih d c hp hk
      omega
    · have e : d = n := by omega
      rw [e] at hp hk
      rw [if_pos ⟨hp, hk⟩]
      omega
theorem pm_cnt_congr {p q : Nat → Bool} {k l : Nat → Nat} {z : Nat} : ∀ n, (∀ d, d < n → p d = q d ∧ k d = l d) → pm_cnt p k z n = pm_cnt q l z n := by
  intro n
  induction n with
  | zero => intro _; rfl
  | succ n ih =>
    intro h
    simp only [pm_cnt]
    rw [ih (fun d hd => h d (by omega)), (h n (by omega)).1, (h n (by omega)).2]
theorem pm_tot_congr {p q : Nat → Bool} : ∀ n, (∀ d, d < n → p d = q d) → pm_tot p n = pm_tot q n := by
  intro n
  induction n with
  | zero => intro _; rfl
  | succ n ih =>
    intro h
    simp only [pm_tot]
    rw [ih (fun d hd => h d (by omega)), h n (by omega)]
theorem pm_ref {p q : Nat → Bool} {kl kr : Nat → Nat} {B : Nat} (hl : ∀ d, d < 7 → p d = true → kl d < B) (hr : ∀ d, d < 7 → q d = true → kr d < B) :
    (pm_tot p 7 = pm_tot q 7 ∧ ∀ d, d < 7 → q d = true → pm_cnt p kl (kr d) 7 = pm_cnt q kr (kr d) 7) ↔ ∀ z, pm_cnt p kl z 7 = pm_cnt q kr z 7 := by
  constructor
  · rintro ⟨h1, h2⟩ z
    have key : ∀ z, z < B → pm_cnt q kr z 7 = pm_cnt p kl z 7 := by
      refine pm_sum_eq (f := fun z => pm_cnt q kr z 7) (g := fun z => pm_cnt p kl z 7) B ?_ ?_
      · intro z _
        show pm_cnt q kr z 7 ≤ pm_cnt p kl z 7
        rcases Nat.eq_zero_or_pos (pm_cnt q kr z 7) with c | c
        · omega
        · obtain ⟨d, h3, h4, h5⟩ := pm_cnt_ex 7 c
          have h6 := h2 d h3 h4
          rw [h5] at h6
          omega
      · rw [pm_sum_cnt q kr B 7 hr, pm_sum_cnt p kl B 7 hl, h1]
    rcases Nat.lt_or_ge z B with c | c
    · exact (key z c).symm
    · have a : ¬ 0 < pm_cnt p kl z 7 := fun hp => by
        obtain ⟨d, h3, h4, h5⟩ := pm_cnt_ex 7 hp
        have := hl d h3 h4
        omega
      have b : ¬ 0 < pm_cnt q kr z 7 := fun hp => by
        obtain ⟨d, h3, h4, h5⟩ := pm_cnt_ex 7 hp
        have := hr d h3 h4
        omega
      omega
  · intro h
    refine ⟨?_, fun d _ _ => h _⟩
    rw [← pm_sum_cnt p kl B 7 hl, ← pm_sum_cnt q kr B 7 hr]
    have e : (fun z => pm_cnt p kl z 7) = (fun z => pm_cnt q kr z 7) := funext h
    rw [e]
/-- taking one of the set away -/
theorem pm_rm {U V : Nat → Bool} {k : Nat → Nat} {e : Nat} (z : Nat) : ∀ n, e < n → U e = true → (∀ j, j < n → V j = (U j && !(j == e))) → pm_cnt V k z n + (if k e = z then 1 else 0) = pm_cnt U k z n := by
  intro n
  induction n with
  | zero => intro h; omega
  | succ n ih =>
    intro he hU hV
    simp only [pm_cnt]
    have hn := hV n (by omega)
    rcases Nat.lt_or_ge e n with c | c
    · have e1 := ih c hU (fun j hj => hV j (by omega))
      have e2 : V n = U n := by
        rw [hn]
        have : (n == e) = false := by
          rw [beq_eq_false_iff_ne]
          omega
        rw [this]
        simp
      rw [e2]
      omega
    · have e1 : e = n := by omega
      have e2 : V n = false := by
        rw [hn, e1]
        simp
      have e3 : pm_cnt V k z n = pm_cnt U k z n := pm_cnt_congr n (fun d hd => ⟨by
        rw [hV d (by omega)]
        have : (d == e) = false := by
          rw [beq_eq_false_iff_ne]
          omega
        rw [this]
        simp, rfl⟩)
      rw [e1] at hU
      rw [e3, e2, hU, e1]
      simp
/-! keys -/
theorem dv_dig {a g m n b h k l : Nat} (h2 : g < 6) (h3 : m < 6) (h4 : n < 6) (h6 : h < 6) (h7 : k < 6) (h8 : l < 6) (e : a * 216 + g * 36 + m * 6 + n = b * 216 + h * 36 + k * 6 + l) : a = b ∧ g = h ∧ m = k ∧ n = l := by omega
def dv_mn (x y : Nat) : Nat := if x ≤ y then x else y
def dv_mx (x y : Nat) : Nat := if x ≤ y then y else x
theorem dv_mm {x y u v : Nat} : (dv_mn x y = dv_mn u v ∧ dv_mx x y = dv_mx u v) ↔ ((x = u ∧ y = v) ∨ (x = v ∧ y = u)) := by
  by_cases c : x ≤ y <;> by_cases d : u ≤ v <;> simp only [dv_mn, dv_mx, c, d, reduceIte] <;> omega
theorem dv_mlt {x y : Nat} (hx : x < 6) (hy : y < 6) : dv_mn x y < 6 ∧ dv_mx x y < 6 := by
  by_cases c : x ≤ y <;> simp only [dv_mn, dv_mx, c, reduceIte] <;> omega
def dv_K (T G X Y t : Nat → Nat) (l : Nat) : Nat := T l * 216 + (if T l = 2 then 0 else t (G l)) * 36 + dv_mn (t (X l)) (t (Y l)) * 6 + dv_mx (t (X l)) (t (Y l))
def dv_ok (T G X Y : Nat → Nat) : Prop := ∀ j, T j < 3 ∧ G j < 6 ∧ X j < 6 ∧ Y j < 6
def dv_S (T G X Y t : Nat → Nat) (l r : Nat) : Prop := T l = T r ∧ (T l = 2 ∨ t (G l) = G r) ∧ ((t (X l) = X r ∧ t (Y l) = Y r) ∨ (t (X l) = Y r ∧ t (Y l) = X r))
theorem dv_gl {T G X Y t : Nat → Nat} (ok : dv_ok T G X Y) (ht : ∀ i, i < 6 → t i < 6) (l : Nat) : (if T l = 2 then 0 else t (G l)) < 6 := by
  by_cases c : T l = 2
  · rw [if_pos c]; omega
  · rw [if_neg c]; exact ht _ (ok l).2.1
theorem dv_K_lt {T G X Y t : Nat → Nat} (ok : dv_ok T G X Y) (ht : ∀ i, i < 6 → t i < 6) (l : Nat) : dv_K T G X Y t l < 648 := by
  have h1 := dv_gl ok ht l
  have h2 := dv_mlt (ht _ (ok l).2.2.1) (ht _ (ok l).2.2.2)
  have h3 := (ok l).1
  unfold dv_K
  generalize (if T l = 2 then 0 else t (G l)) = g at h1
  omega
theorem dv_K_iff {T G X Y t : Nat → Nat} (ok : dv_ok T G X Y) (ht : ∀ i, i < 6 → t i < 6) (l r : Nat) : dv_K T G X Y t l = dv_K T G X Y (fun i => i) r ↔ dv_S T G X Y t l r := by
  have ht' : ∀ i, i < 6 → (fun i : Nat => i) i < 6 := fun i h => h
  have h1 := dv_gl ok ht l
  have h2 := dv_mlt (ht _ (ok l).2.2.1) (ht _ (ok l).2.2.2)
  have h3 := dv_gl ok ht' r
  have h4 := dv_mlt (ok r).2.2.1 (ok r).2.2.2
  constructor
  · intro e
    obtain ⟨e1, e2, e3, e4⟩ := dv_dig h1 h2.1 h2.2 h3 h4.1 h4.2 e
    refine ⟨e1, ?_, dv_mm.mp ⟨e3, e4⟩⟩
    by_cases c : T l = 2
    · exact Or.inl c
    · rw [if_neg c, if_neg (by omega)] at e2
      exact Or.inr e2
  · rintro ⟨e1, e2, e3⟩
    obtain ⟨e4, e5⟩ := dv_mm.mpr e3
    have e6 : (if T l = 2 then 0 else t (G l)) = (if T r = 2 then 0 else G r) := by
      by_cases c : T l = 2
      · rw [if_pos c, if_pos (by omega)]
      · rw [if_neg c, if_neg (by omega)]
        exact e2.resolve_left c
    unfold dv_K
    rw [e1] at e6 ⊢
    rw [e6, e4, e5]
end
section
/-! the 720 assignments in the dictionary order: a table, three bits an entry -/
def nt_T : Nat := 455498570197711749010957904351519117023471056843734810162921130615690140906625219161976867188089757211984822289836946213513630993324236385992626680501062140103379639934333022361301337770890454276057898473653914239370824433533281276903682010010691692254286522419628286481360150510386636978374803053011684942246136894375944111488752302881636302840166691561026082781854187843485176063911291615212674499049565234106347119034341025517833785112194415339592576264218811789413984924671206143634283010728873478446161978329530037680317092429389171433091383857773827785695745376389739579430870883013590111868028652135241416524525837977341643650827293915682538566044042312392640945457192563037544840477500842267181450178712993602507073146567603823423511107383801465406477932442967914157593251793781694717957892565144624110856881451119845390363035753779570088129164224353818004046112153914519142496764939451275740186476426041694277009921494088007702335011167289990989973186186725255606208444007252495123323845432453230067664544374414351055491861193519444777540787052299141279302550125690788133243567719031930468100604514192908291576795428012225481902035161689160851557276861459112461555744143742803358969723879693876113968960667421240441771248904385537530389991290674850961215826498092782788995429269736508202071772896643559918846703402163093849870512719405415199444216544967716821161404762490233972128877821168449367646275707457343147684428838518192871467725964253963888070317644546495016128093716731707832161320202039481796607163180896798834776298677311067153409803258380593295373137717696718147162251953527761335996227103615276331872197669014523475086715648455099722867540099162723155105526010243889406164032353830284793979350108338610791023480216779181820347576758076144480211984850725339251657499940589925606937223824807751710142086742761650795368678779620620737339743349097817019231262301855116514058588198161646698192339240487135564501469765982460473042226657081457981159143731219918628544893325252115456798565454628325427092167391148181842321468736322455292057685470140018042999746547324133009294317117845325289620120663630153429479782808797576849403906180789454869758980819789126971239229765380223992385033500535060417412368667151245929961600924490051151561793504081402738487853733794730345268573789676200761534392088176852735403473339563280388780126573934684886911073057789176790123895575571633446264269307442133307801195993040474454725436930446883998811841539332866208346810979200539461829670426556095604125249680059564274825246034454379682655996838921405635357842863298093123946721112119059670220051884986444456121088396819467984431621692555924896462855757127781279308187710680714280175196954524649603146781827079048828512540071640018840203856560997958996929582512583247457396075904248485639417122219651541070906185767172252610393094881444052426979030837500512339589169284110883819444774507842446182145355453784046972870055200198225164846290655846977478572815443476204100071599930876085493594620271819956092247961644964499474569032543102442687645369850651281196340703851138577685625485843169619094858545797223509766598147642977680821365139054182851892715933096576142946215426158111380201111105843947777351330307214402626510641208882553463428875934256342813183115762551047128865095121703542610505599689181062105223903252703956187036134052115315883752164449219605138174423487215211713100602322296766558468678900914156244167688488529982478137482615455924367210380807650013451751413241200645565942463195503240673078845543224679591503843405214696888989375694068176344324558652048914704277633611345876326859193329349830821844708915474637494330839446372784954573334794547157842892577824023421526880291335589988081672313136623973094502362993591053073073955238488104376288305309842901611185246332512187178115246075794025128845296740349760736023796354354187003222108647160878590185059235014514008851758274758280
def nt_P (c i : Nat) : Nat := (nt_T >>> (18 * c + 3 * i)) % 8
theorem nt_lt : ∀ c, c < 720 → ∀ i, i < 6 → nt_P c i < 6 := by decide +kernel
theorem nt_0 : ∀ i, i < 6 → nt_P 0 i = i := by decide +kernel
theorem nt_last : ∀ i, i < 5 → nt_P 719 (i + 1) < nt_P 719 i := by decide +kernel
/-- the last place where the assignment rises -/
def nt_pv (c : Nat) : Nat := if nt_P c 4 < nt_P c 5 then 4 else if nt_P c 3 < nt_P c 4 then 3 else if nt_P c 2 < nt_P c 3 then 2 else if nt_P c 1 < nt_P c 2 then 1 else 0
/-- the last place whose net is above that of place p -/
def nt_sc (c p : Nat) : Nat := if nt_P c p < nt_P c 5 then 5 else if nt_P c p < nt_P c 4 then 4 else if nt_P c p < nt_P c 3 then 3 else if nt_P c p < nt_P c 2 then 2 else 1
theorem nt_pv1 : ∀ c, c < 719 → nt_pv c < 5 ∧ nt_P c (nt_pv c) < nt_P c (nt_pv c + 1) := by decide +kernel
theorem nt_pv2 : ∀ c, c < 719 → ∀ i, i < 5 → nt_pv c < i → nt_P c (i + 1) < nt_P c i := by decide +kernel
theorem nt_sc1 : ∀ c, c < 719 → nt_pv c < nt_sc c (nt_pv c) ∧ nt_sc c (nt_pv c) < 6 ∧ nt_P c (nt_pv c) < nt_P c (nt_sc c (nt_pv c)) := by decide +kernel
theorem nt_sc2 : ∀ c, c < 719 → ∀ i, i < 6 → nt_sc c (nt_pv c) < i → nt_P c i < nt_P c (nt_pv c) := by decide +kernel
theorem nt_next : ∀ c, c < 719 → ∀ i, i < 6 → nt_P (c + 1) i = (if i < nt_pv c then nt_P c i else if i = nt_pv c then nt_P c (nt_sc c (nt_pv c)) else if nt_pv c + 6 - i = nt_sc c (nt_pv c) then nt_P c (nt_pv c) else nt_P c (nt_pv c + 6 - i)) := by decide +kernel
/-! the reference's spelling of the same -/
def nt_blk (k : Nat) : Nat := if k = 0 then 720 else if k = 1 then 120 else if k = 2 then 24 else if k = 3 then 6 else if k = 4 then 2 else 1
theorem nt_blk1 : ∀ k, k < 6 → nt_blk k / (6 - k) = nt_blk (k + 1) ∧ 0 < nt_blk (k + 1) ∧ nt_blk k < 721 := by decide +kernel
def nt_rest (c : Nat) : Nat → Nat
  | 0 => c
  | k + 1 => nt_rest c k % nt_blk (k + 1)
def nt_used (c : Nat) : Nat → Nat
  | 0 => 0
  | k + 1 => nt_used c k ||| 2 ^ nt_P c k
def nt_fr (u s : Nat) : Nat → Nat → Nat → Nat
  | 0, _, _ => 0
  | f + 1, j, n => if u.testBit j = false then (if n = s then j else nt_fr u s f (j + 1) (n + 1)) else nt_fr u s f (j + 1) n
theorem nt_spell : ∀ c, c < 720 → ∀ k, k < 6 → nt_fr (nt_used c k) (nt_rest c k / nt_blk (k + 1)) 6 0 0 = nt_P c k := by decide +kernel
theorem nt_used_lt : ∀ c, c < 720 → ∀ k, k < 7 → nt_used c k < 128 := by decide +kernel
theorem nt_rest_lt : ∀ c, c < 720 → ∀ k, k < 7 → nt_rest c k < 721 := by decide +kernel
end
section
/-! bits of small masks -/
theorem bs_has : ∀ m, m < 128 → ∀ d, d < 7 → (((nI m >>> (nI d &&& 31)) &&& 1) = if m.testBit d = true then 1 else 0) := by decide +kernel
theorem bs_set : ∀ m, m < 128 → ∀ d, d < 7 → (nI m ||| ((1 : Int32) <<< (nI d &&& 31))) = nI (m ||| 2 ^ d) ∧ m ||| 2 ^ d < 128 := by decide +kernel
theorem bs_setT : ∀ m, m < 128 → ∀ d, d < 7 → ∀ j, j < 7 → (m ||| 2 ^ d).testBit j = (m.testBit j || j == d) := by decide +kernel
def bs_clr (m d : Nat) : Nat := if m.testBit d = true then m - 2 ^ d else m
theorem bs_clrI : ∀ m, m < 128 → ∀ d, d < 7 → (nI m &&& (((1 : Int32) <<< (nI d &&& 31)) ^^^ (-1))) = nI (bs_clr m d) ∧ bs_clr m d < 128 := by decide +kernel
theorem bs_clrT : ∀ m, m < 128 → ∀ d, d < 7 → ∀ j, j < 7 → (bs_clr m d).testBit j = (m.testBit j && !(j == d)) := by decide +kernel
theorem bs_zero : ∀ m, m < 128 → m ≠ 0 → ∃ j, j < 7 ∧ m.testBit j = true := by decide +kernel
theorem bs_ext : ∀ m, m < 128 → ∀ l, l < 128 → (∀ j, j < 7 → m.testBit j = l.testBit j) → m = l := by decide +kernel
end
section
/-! which assignments fit: their number, their images, the first of them -/
def pf_im (F : Nat → Bool) (i : Nat) : Nat → Nat
  | 0 => 0
  | n + 1 => if F n = true then pf_im F i n ||| 2 ^ nt_P n i else pf_im F i n
theorem pf_im_lt {F : Nat → Bool} {i : Nat} (hi : i < 6) : ∀ n, n ≤ 720 → pf_im F i n < 128 := by
  intro n
  induction n with
  | zero => intro _; exact (by decide : 0 < 128)
  | succ n ih =>
    intro h
    have h1 := ih (by omega)
    have h2 := nt_lt n (by omega) i hi
    simp only [pf_im]
    by_cases c : F n = true
    · rw [if_pos c]; exact (bs_set _ h1 _ (by omega)).2
    · rw [if_neg c]; exact h1
theorem pf_im_T {F : Nat → Bool} {i j : Nat} (hi : i < 6) (hj : j < 7) : ∀ n, n ≤ 720 → ((pf_im F i n).testBit j = true ↔ ∃ c, c < n ∧ F c = true ∧ nt_P c i = j) := by
  intro n
  induction n with
  | zero =>
    intro _
    constructor
    · intro h
      simp [pf_im] at h
    · rintro ⟨c, hc, _⟩
      omega
  | succ n ih =>
    intro h
    have h1 := ih (by omega)
    have h2 := nt_lt n (by omega) i hi
    have h3 := pf_im_lt (F := F) hi n (by omega)
    simp only [pf_im]
    by_cases c : F n = true
    · rw [if_pos c, bs_setT _ h3 _ (by omega) _ hj, Bool.or_eq_true, h1, beq_iff_eq]
      constructor
      · rintro (⟨e, h4, h5, h6⟩ | h4)
        · exact ⟨e, by omega, h5, h6⟩
        · exact ⟨n, by omega, c, h4.symm⟩
      · rintro ⟨e, h4, h5, h6⟩
        rcases Nat.lt_or_ge e n with d | d
        · exact Or.inl ⟨e, d, h5, h6⟩
        · have e2 : e = n := by omega
          rw [e2] at h6
          exact Or.inr h6.symm
    · rw [if_neg c, h1]
      constructor
      · rintro ⟨e, h4, h5⟩
        exact ⟨e, by omega, h5⟩
      · rintro ⟨e, h4, h5, h6⟩
        rcases Nat.lt_or_ge e n with d | d
        · exact ⟨e, d, h5, h6⟩
        · have e2 : e = n := by omega
          rw [e2] at h5
          exact absurd h5 c
theorem pm_tot_le (F : Nat → Bool) : ∀ n, pm_tot F n ≤ n := by
  intro n
  induction n with
  | zero => exact Nat.le_refl _
  | succ n ih =>
    simp only [pm_tot]
    by_cases c : F n = true
    · rw [if_pos c]; omega
    · rw [if_neg c]; omega
theorem pm_tot_0 {F : Nat → Bool} : ∀ n, pm_tot F n = 0 ↔ ∀ c, c < n → F c = false := by
  intro n
  induction n with
  | zero => exact ⟨fun _ c h => absurd h (Nat.not_lt_zero c), fun _ => rfl⟩
  | succ n ih =>
    simp only [pm_tot]
    cases hn : F n with
    | false =>
      rw [if_neg (by decide), Nat.add_zero, ih]
      constructor
      · intro h c hc
        rcases Nat.lt_or_ge c n with d | d
        · exact h c d
        · have e2 : c = n := by omega
          rw [e2]
          exact hn
      · exact fun h c hc => h c (by omega)
    | true =>
      rw [if_pos rfl]
      constructor
      · intro h
        omega
      · intro h
        have h2 := h n (by omega)
        rw [hn] at h2
        exact absurd h2 (by decide)
/-- c is the first that fits, below n -/
def pf_fs (F : Nat → Bool) (c n : Nat) : Prop := c < n ∧ F c = true ∧ ∀ d, d < c → F d = false
theorem pf_uniq {F : Nat → Bool} {c d n m : Nat} (h : pf_fs F c n) (g : pf_fs F d m) : c = d := by
  rcases Nat.lt_trichotomy c d with z | z | z
  · have h2 := g.2.2 c z
    rw [h.2.1] at h2
    exact absurd h2 (by decide)
  · exact z
  · have h2 := h.2.2 d z
    rw [g.2.1] at h2
    exact absurd h2 (by decide)
theorem pf_some {F : Nat → Bool} {c n : Nat} (h : pf_fs F c n) : 0 < pm_tot F n := by
  rcases Nat.eq_zero_or_pos (pm_tot F n) with z | z
  · have h2 := (pm_tot_0 n).mp z c h.1
    rw [h.2.1] at h2
    exact absurd h2 (by decide)
  · exact z
end
section
/-! numbers and places -/
theorem ix_7 (c d : Nat) : nI c * 7 + nI d = nI (7 * c + d) := by
  rw [show (7 : Int32) = nI 7 from rfl, pk_mul, nI_add, Nat.mul_comm]
theorem ix_7' (c d : Nat) : 7 * nI c + nI d = nI (7 * c + d) := by
  rw [show (7 : Int32) = nI 7 from rfl, pk_mul, nI_add]
theorem ix_6 (c d : Nat) : nI c * 6 + nI d = nI (6 * c + d) := by
  rw [show (6 : Int32) = nI 6 from rfl, pk_mul, nI_add, Nat.mul_comm]
theorem ix_6' (c d : Nat) : 6 * nI c + nI d = nI (6 * c + d) := by
  rw [show (6 : Int32) = nI 6 from rfl, pk_mul, nI_add]
theorem cm_at {a : Nat → Int32} {l v : Nat} (hl : l < 100) (ea : a l = nI v) : a (nI l).toNatClampNeg = nI v := by
  rw [nI_clamp (by omega)]
  exact ea
theorem cm_eq {x y : Int32} {p q : Nat} (ex : x = nI p) (ey : y = nI q) (hp : p < 100) (hq : q < 100) : x = y ↔ p = q := by
  rw [ex, ey, nI_eq (by omega) (by omega)]
theorem cm_in {x : Int32} {p n : Nat} (ex : x = nI p) (hp : p < n) (hn : n < 100) : vp_in x n := by
  rw [ex]
  exact vp_in_nI hp (by omega)
/-- the device arrays, by naturals -/
def dv_A (ty ga xs ys : Nat → Int32) (T G X Y : Nat → Nat) : Prop := (∀ j, ty j = nI (T j) ∧ ga j = nI (G j) ∧ xs j = nI (X j) ∧ ys j = nI (Y j)) ∧ dv_ok T G X Y
section DEVA
variable {ty ga xs ys : Nat → Int32} {T G X Y : Nat → Nat}
theorem dv_T (h : dv_A ty ga xs ys T G X Y) {l : Nat} (hl : l < 100) : ty (nI l).toNatClampNeg = nI (T l) := cm_at hl (h.1 l).1
theorem dv_G (h : dv_A ty ga xs ys T G X Y) {l : Nat} (hl : l < 100) : ga (nI l).toNatClampNeg = nI (G l) := cm_at hl (h.1 l).2.1
theorem dv_X (h : dv_A ty ga xs ys T G X Y) {l : Nat} (hl : l < 100) : xs (nI l).toNatClampNeg = nI (X l) := cm_at hl (h.1 l).2.2.1
theorem dv_Y (h : dv_A ty ga xs ys T G X Y) {l : Nat} (hl : l < 100) : ys (nI l).toNatClampNeg = nI (Y l) := cm_at hl (h.1 l).2.2.2
theorem dv_bT (h : dv_A ty ga xs ys T G X Y) (l : Nat) : T l < 100 := Nat.lt_of_lt_of_le (h.2 l).1 (by decide)
theorem dv_bG (h : dv_A ty ga xs ys T G X Y) (l : Nat) : G l < 100 := Nat.lt_of_lt_of_le (h.2 l).2.1 (by decide)
theorem dv_bX (h : dv_A ty ga xs ys T G X Y) (l : Nat) : X l < 100 := Nat.lt_of_lt_of_le (h.2 l).2.2.1 (by decide)
theorem dv_bY (h : dv_A ty ga xs ys T G X Y) (l : Nat) : Y l < 100 := Nat.lt_of_lt_of_le (h.2 l).2.2.2 (by decide)
end DEVA
/-- a device is there -/
def th_H (th : Nat → Int32) (j : Nat) : Bool := !(th j == 0)
theorem th_f {th : Nat → Int32} {l : Nat} (hl : l < 100) : th (nI l).toNatClampNeg = 0 ↔ th_H th l = false := by
  rw [nI_clamp (by omega)]
  unfold th_H
  cases hb : (th l == 0)
  · rw [beq_eq_false_iff_ne] at hb
    simp [hb]
  · rw [beq_iff_eq] at hb
    simp [hb]
theorem th_nf {x : Bool} (h : ¬ x = false) : x = true := by cases x <;> simp_all
theorem th_nt {x : Bool} (h : ¬ x = true) : x = false := by cases x <;> simp_all
theorem th_cl {x : Bool} (h : x = false) : ¬ x = true := by rw [h]; decide
/-! who is a circuit, who is a net -/
theorem ci_X {post : Int32 → Prop} {c : Nat} (hc : c < 2) (h : post 1) : wpX_isCircuit post (nI c) :=
  br_f (nI_pos (by omega)) (br_f (nI_ge (b := 2) hc (by decide)) h)
theorem ci_Y {post : Int32 → Prop} {c : Nat} {th ty ga xs ys nn to : Nat → Int32} (hc : c < 2) (h : post 1) : wpY_circuit post (th, ty, ga, xs, ys, nn, to) (nI c) := by
  rcases (show c = 0 ∨ c = 1 by omega) with e | e
  · rw [e]; exact br_t rfl h
  · rw [e]; exact br_f (by decide) (br_t rfl h)
theorem ci_no (p : Int32) : (∃ c, c < 2 ∧ p = nI c) ∨ ((∀ post : Int32 → Prop, post 0 → wpX_isCircuit post p) ∧ ∀ (post : Int32 → Prop) (th ty ga xs ys nn to : Nat → Int32), post 0 → wpY_circuit post (th, ty, ga, xs, ys, nn, to) p) := by
  rcases pk_ix p (n := 2) (by omega) with h | h | h
  · right
    have a : ¬ p = 0 := fun e => by rw [e] at h; exact absurd h (by decide)
    have b : ¬ p = 1 := fun e => by rw [e] at h; exact absurd h (by decide)
    exact ⟨fun post h0 => br_t h h0, fun post _ _ _ _ _ _ _ h0 => br_f a (br_f b h0)⟩
  · right
    have h' : (2 : Int32) ≤ p := h
    have z : ¬ p < 0 := fun e => absurd (Int32.lt_of_le_of_lt h' e) (by decide)
    have a : ¬ p = 0 := fun e => by rw [e] at h'; exact absurd h' (by decide)
    have b : ¬ p = 1 := fun e => by rw [e] at h'; exact absurd h' (by decide)
    exact ⟨fun post h0 => br_f z (br_t h' h0), fun post _ _ _ _ _ _ _ h0 => br_f a (br_f b h0)⟩
  · exact Or.inl h
theorem ne_X {post : Int32 → Prop} {c : Nat} (hc : c < 6) (h : post 1) : wpX_isNet post (nI c) :=
  br_f (nI_pos (by omega)) (br_f (nI_ge (b := 6) hc (by decide)) h)
theorem ne_Y {post : Int32 → Prop} {c : Nat} {th ty ga xs ys nn to : Nat → Int32} (hc : c < 6) (h : post 1) : wpY_net post (th, ty, ga, xs, ys, nn, to) (nI c) :=
  br_f (nI_pos (by omega)) (br_f (nI_nlt (a := 5) (by omega) (by decide)) h)
theorem ne_no (p : Int32) : (∃ c, c < 6 ∧ p = nI c) ∨ ((∀ post : Int32 → Prop, post 0 → wpX_isNet post p) ∧ ∀ (post : Int32 → Prop) (th ty ga xs ys nn to : Nat → Int32), post 0 → wpY_net post (th, ty, ga, xs, ys, nn, to) p) := by
  rcases pk_ix p (n := 6) (by omega) with h | h | h
  · right
    exact ⟨fun post h0 => br_t h h0, fun post _ _ _ _ _ _ _ h0 => br_t h h0⟩
  · right
    have h' : (6 : Int32) ≤ p := h
    have z : ¬ p < 0 := fun e => absurd (Int32.lt_of_le_of_lt h' e) (by decide)
    have a : (5 : Int32) < p := Int32.lt_of_lt_of_le (by decide) h'
    exact ⟨fun post h0 => br_f z (br_t h' h0), fun post _ _ _ _ _ _ _ h0 => br_f z (br_t a h0)⟩
  · exact Or.inl h
theorem hb_X {post : Int32 → Prop} {m d : Nat} (hm : m < 128) (hd : d < 7) (h1 : m.testBit d = true → post 1) (h0 : m.testBit d = false → post 0) : wpX_hasBit post (nI m) (nI d) := by
  unfold wpX_hasBit
  rw [bs_has m hm d hd]
  cases hb : m.testBit d
  · exact br_f (by decide) (h0 hb)
  · exact br_t (by decide) (h1 hb)
/-! the reference: spelling an assignment -/
theorem yw_free5 {post : Int32 → Prop} {u s : Nat} {th ty ga xs ys nn to : Nat → Int32} (hu : u < 128) (hs : s < 1000) : ∀ f j n m, j + f = 6 → n ≤ j → f < m → post (nI (nt_fr u s f j n)) → wY_free_5 post (nI u) (nI s) th ty ga xs ys nn to m (nI n) (nI j) := by
  intro f
  induction f with
  | zero =>
    intro j n m hj hn hm hp
    obtain ⟨k, rfl⟩ : ∃ k, m = k + 1 := ⟨m - 1, by omega⟩
    have e : j = 6 := by omega
    rw [e]
    exact br_t (by decide) hp
  | succ f ih =>
    intro j n m hj hn hm hp
    obtain ⟨k, rfl⟩ : ∃ k, m = k + 1 := ⟨m - 1, by omega⟩
    have hjj : j < 6 := by omega
    refine br_f (nI_ge (b := 6) hjj (by decide)) ?_
    rw [bs_has u hu j (by omega)]
    simp only [nt_fr] at hp
    cases hb : u.testBit j
    · rw [hb, if_pos rfl] at hp
      refine br_t (by decide) (pk_eq n s (fun e => ?_) (fun e => ?_) rfl rfl (by omega) (by omega))
      · rw [if_pos e] at hp
        exact hp
      · rw [if_neg e] at hp
        exact nm_r (nI_1 n) (nm_r (nI_1 j) (ih (j + 1) (n + 1) k (by omega) (by omega) (by omega) hp))
    · rw [hb, if_neg (by decide)] at hp
      exact br_f (by decide) (nm_r (nI_1 j) (ih (j + 1) n k (by omega) (by omega) (by omega) hp))
theorem yw_free {post : Int32 → Prop} {u s : Nat} {th ty ga xs ys nn to : Nat → Int32} (hu : u < 128) (hs : s < 1000) (hp : post (nI (nt_fr u s 6 0 0))) : wpY_free post (th, ty, ga, xs, ys, nn, to) (nI u) (nI s) :=
  ⟨7, yw_free5 hu hs 6 0 0 7 rfl (Nat.le_refl 0) (by decide) hp⟩
theorem yw_spell12 {post : SY → Prop} {c : Nat} {th ty ga xs ys nn : Nat → Int32} (hc : c < 720) (hp : ∀ to : Nat → Int32, (∀ i, i < 6 → to i = nI (nt_P c i)) → post (th, ty, ga, xs, ys, nn, to)) : ∀ f k m (to : Nat → Int32), k + f = 6 → f < m → (∀ i, i < k → to i = nI (nt_P c i)) → wY_spell_12 post m (nI (nt_used c k)) (nI (nt_rest c k)) (nI (nt_blk k)) (nI k) th ty ga xs ys nn to := by
  intro f
  induction f with
  | zero =>
    intro k m to hk hm ht
    obtain ⟨m, rfl⟩ : ∃ j, m = j + 1 := ⟨m - 1, by omega⟩
    have e : k = 6 := by omega
    rw [e] at ht ⊢
    exact br_t (by decide) (hp to ht)
  | succ f ih =>
    intro k m to hk hm ht
    obtain ⟨m, rfl⟩ : ∃ j, m = j + 1 := ⟨m - 1, by omega⟩
    have hkk : k < 6 := by omega
    have e6 : (6 : Int32) - nI k = nI (6 - k) := pk_sub (a := 6) (by omega)
    obtain ⟨b1, b2, b3⟩ := nt_blk1 k hkk
    have b4 : nt_blk (k + 1) < 721 := by
      rw [← b1]
      exact Nat.lt_of_le_of_lt (Nat.div_le_self _ _) b3
    have r1 := nt_rest_lt c hc k (by omega)
    have u1 := nt_used_lt c hc k (by omega)
    have p1 := nt_lt c hc k hkk
    have ed : nI (nt_rest c k) / nI (nt_blk (k + 1)) = nI (nt_rest c k / nt_blk (k + 1)) := pk_div (by omega) b2 (by omega)
    have er : nI (nt_rest c k) - nI (nt_rest c k) / nI (nt_blk (k + 1)) * nI (nt_blk (k + 1)) = nI (nt_rest c (k + 1)) := pk_rem (by omega) b2 (by omega)
    have q1 : nt_rest c k / nt_blk (k + 1) < 1000 := Nat.lt_of_le_of_lt (Nat.div_le_self _ _) (by omega)
    refine br_f (nI_ge (b := 6) hkk (by decide)) ⟨by rw [e6]; exact nI_ne0 (by omega) (by omega), nm_r (e' := nI (nt_blk (k + 1))) (by rw [e6, pk_div (by omega) (by omega) (by omega), b1]) ?_⟩
    refine br_f (nI_nle b2 (by omega)) ⟨nI_ne0 b2 (by omega), ?_⟩
    refine br_f (nI_nle b2 (by omega)) ⟨nI_ne0 b2 (by omega), ?_⟩
    unfold wY_spell_57
    rw [er, ed]
    refine yw_free u1 q1 ?_
    rw [nt_spell c hc k hkk]
    refine nm_r (e' := nI (nt_used c (k + 1))) (bs_set _ u1 _ (by omega)).1 ⟨vp_in_nI hkk (by decide), nm_r (e' := upd to k (nI (nt_P c k))) (by rw [nI_clamp (by omega)]) (nm_r (nI_1 k) (ih (k + 1) m _ (by omega) (by omega) ?_))⟩
    intro i hi
    rcases Nat.lt_or_ge i k with z | z
    · rw [pk_un (by omega)]
      exact ht i z
    · have e : i = k := by omega
      rw [e, pk_us]
theorem yw_spell {post : SY → Prop} {c : Nat} {th ty ga xs ys nn to : Nat → Int32} (hc : c < 720) (hp : ∀ to : Nat → Int32, (∀ i, i < 6 → to i = nI (nt_P c i)) → post (th, ty, ga, xs, ys, nn, to)) : wpY_spell post (th, ty, ga, xs, ys, nn, to) (nI c) :=
  ⟨7, yw_spell12 hc hp 6 0 7 to rfl (by decide) (fun i h => absurd h (Nat.not_lt_zero i))⟩
end
section
/-! the reference: the same device, and whether an assignment fits -/
section YSAME
variable {th ty ga xs ys nn to : Nat → Int32} {T G X Y : Nat → Nat}
theorem ys_0 {post : Int32 → Prop} {l r : Nat} {g : Int32} (hl : l < 14) (hr : r < 14) (h : post 0) : wY_same_127 post (nI l) (nI r) g 0 th ty ga xs ys nn to :=
  ⟨vp_in_nI hl (by decide), br_c (fun _ => h) (fun _ => ⟨vp_in_nI hr (by decide), br_c (fun _ => h) (fun _ => ⟨vp_in_nI hl (by decide), vp_in_nI hr (by decide), br_c (fun _ => br_t rfl h) (fun _ => h)⟩)⟩)⟩
theorem ys_1 {post : Int32 → Prop} {l r g : Nat} (A : dv_A ty ga xs ys T G X Y) (hl : l < 14) (hr : r < 14) (hg : g < 100)
    (h1 : th_H th l = true → th_H th r = true → T l = T r → (T l = 2 ∨ g = G r) → post 1)
    (h0 : ¬ (th_H th l = true ∧ th_H th r = true ∧ T l = T r ∧ (T l = 2 ∨ g = G r)) → post 0) : wY_same_127 post (nI l) (nI r) (nI g) 1 th ty ga xs ys nn to := by
  have il : vp_in (nI l) 14 := vp_in_nI hl (by decide)
  have ir : vp_in (nI r) 14 := vp_in_nI hr (by decide)
  refine ⟨il, ek_if (th_f (by omega)) (fun a => h0 (fun z => th_cl a z.1)) (fun a => ⟨ir, ek_if (th_f (by omega)) (fun b => h0 (fun z => th_cl b z.2.1)) (fun b => ⟨il, ir, ?_⟩)⟩)⟩
  refine ek_if (cm_eq (dv_T A (by omega)) (dv_T A (by omega)) (dv_bT A l) (dv_bT A r)) (fun c => br_f (by decide) ⟨il, ?_⟩) (fun c => h0 (fun z => c z.2.2.1))
  refine ek_if (cm_eq (q := 2) (dv_T A (by omega)) rfl (dv_bT A l) (by decide)) (fun d => h1 (th_nf a) (th_nf b) c (Or.inl d)) (fun d => ⟨ir, ?_⟩)
  exact ek_if (cm_eq rfl (dv_G A (by omega)) hg (dv_bG A r)) (fun e => h1 (th_nf a) (th_nf b) c (Or.inr e)) (fun e => h0 (fun z => z.2.2.2.elim d e))
theorem ys_76 {post : Int32 → Prop} {l r g x y : Nat} (A : dv_A ty ga xs ys T G X Y) (hl : l < 14) (hr : r < 14) (hg : g < 100) (hx : x < 100) (hy : y < 100)
    (h1 : th_H th l = true → th_H th r = true → T l = T r → (T l = 2 ∨ g = G r) → ((x = X r ∧ y = Y r) ∨ (x = Y r ∧ y = X r)) → post 1)
    (h0 : ¬ (th_H th l = true ∧ th_H th r = true ∧ T l = T r ∧ (T l = 2 ∨ g = G r) ∧ ((x = X r ∧ y = Y r) ∨ (x = Y r ∧ y = X r))) → post 0) : wY_same_76 post (nI l) (nI r) (nI g) (nI x) (nI y) th ty ga xs ys nn to := by
  have ir : vp_in (nI r) 14 := vp_in_nI hr (by decide)
  have ex : nI x = xs (nI r).toNatClampNeg ↔ x = X r := cm_eq rfl (dv_X A (by omega)) hx (dv_bX A r)
  have ey : nI y = ys (nI r).toNatClampNeg ↔ y = Y r := cm_eq rfl (dv_Y A (by omega)) hy (dv_bY A r)
  have ex' : nI x = ys (nI r).toNatClampNeg ↔ x = Y r := cm_eq rfl (dv_Y A (by omega)) hx (dv_bY A r)
  have ey' : nI y = xs (nI r).toNatClampNeg ↔ y = X r := cm_eq rfl (dv_X A (by omega)) hy (dv_bX A r)
  have good : ((x = X r ∧ y = Y r) ∨ (x = Y r ∧ y = X r)) → wY_same_122 post (nI l) (nI r) (nI g) th ty ga xs ys nn to := fun e => by
    unfold wY_same_122
    exact ys_1 A hl hr hg (fun a b c d => h1 a b c d e) (fun n => h0 (fun z => n ⟨z.1, z.2.1, z.2.2.1, z.2.2.2.1⟩))
  have bad : ¬ ((x = X r ∧ y = Y r) ∨ (x = Y r ∧ y = X r)) → wY_same_126 post (nI l) (nI r) (nI g) th ty ga xs ys nn to := fun e => by
    unfold wY_same_126
    exact ys_0 hl hr (h0 (fun z => e z.2.2.2.2))
  have h100 : ¬ (x = X r ∧ y = Y r) → wY_same_100 post (nI l) (nI r) (nI g) (nI x) (nI y) th ty ga xs ys nn to := fun e =>
    ⟨ir, ek_if ex' (fun a => ⟨ir, ek_if ey' (fun b => good (Or.inr ⟨a, b⟩)) (fun b => bad (fun z => z.elim e (fun w => b w.2)))⟩) (fun a => bad (fun z => z.elim e (fun w => a w.1)))⟩
  exact ⟨ir, ek_if ex (fun a => ⟨ir, ek_if ey (fun b => good (Or.inl ⟨a, b⟩)) (fun b => h100 (fun z => b z.2))⟩) (fun a => h100 (fun z => a z.1))⟩
theorem ys_m {post : Int32 → Prop} {l r : Nat} {t : Nat → Nat} (A : dv_A ty ga xs ys T G X Y) (ht : ∀ i, i < 6 → to i = nI (t i)) (tl : ∀ i, i < 6 → t i < 6) (hl : l < 14) (hr : r < 14)
    (h1 : th_H th l = true → th_H th r = true → dv_S T G X Y t l r → post 1)
    (h0 : ¬ (th_H th l = true ∧ th_H th r = true ∧ dv_S T G X Y t l r) → post 0) : wpY_same post (th, ty, ga, xs, ys, nn, to) (nI l) 1 (nI r) := by
  have il : vp_in (nI l) 14 := vp_in_nI hl (by decide)
  have n1 : ¬ (1 : Int32) = 0 := by decide
  have g6 := (A.2 l).2.1
  have x6 := (A.2 l).2.2.1
  have y6 := (A.2 l).2.2.2
  have eg : to (ga (nI l).toNatClampNeg).toNatClampNeg = nI (t (G l)) := by
    rw [dv_G A (by omega)]
    exact cm_at (by omega) (ht _ g6)
  have ex : to (xs (nI l).toNatClampNeg).toNatClampNeg = nI (t (X l)) := by
    rw [dv_X A (by omega)]
    exact cm_at (by omega) (ht _ x6)
  have ey : to (ys (nI l).toNatClampNeg).toNatClampNeg = nI (t (Y l)) := by
    rw [dv_Y A (by omega)]
    exact cm_at (by omega) (ht _ y6)
  have b1 := tl _ g6
  have b2 := tl _ x6
  have b3 := tl _ y6
  refine br_f n1 ⟨il, cm_in (dv_G A (by omega)) g6 (by decide), ?_⟩
  rw [eg]
  refine br_f n1 ⟨il, cm_in (dv_X A (by omega)) x6 (by decide), ?_⟩
  rw [ex]
  refine br_f n1 ⟨il, cm_in (dv_Y A (by omega)) y6 (by decide), ?_⟩
  rw [ey]
  exact ys_76 A hl hr (by omega) (by omega) (by omega) (fun a b c d e => h1 a b ⟨c, d, e⟩) (fun n => h0 (fun z => n ⟨z.1, z.2.1, z.2.2.1, z.2.2.2.1, z.2.2.2.2⟩))
theorem ys_n {post : Int32 → Prop} {l r : Nat} (A : dv_A ty ga xs ys T G X Y) (hl : l < 14) (hr : r < 14)
    (h1 : th_H th l = true → th_H th r = true → dv_S T G X Y (fun i => i) l r → post 1)
    (h0 : ¬ (th_H th l = true ∧ th_H th r = true ∧ dv_S T G X Y (fun i => i) l r) → post 0) : wpY_same post (th, ty, ga, xs, ys, nn, to) (nI l) 0 (nI r) := by
  have il : vp_in (nI l) 14 := vp_in_nI hl (by decide)
  refine br_t rfl ⟨il, ?_⟩
  rw [dv_G A (by omega)]
  refine br_t rfl ⟨il, ?_⟩
  rw [dv_X A (by omega)]
  refine br_t rfl ⟨il, ?_⟩
  rw [dv_Y A (by omega)]
  exact ys_76 A hl hr (dv_bG A l) (dv_bX A l) (dv_bY A l) (fun a b c d e => h1 a b ⟨c, d, e⟩) (fun n => h0 (fun z => n ⟨z.1, z.2.1, z.2.2.1, z.2.2.2.1, z.2.2.2.2⟩))
/-- the counting of the devices that are the same as device d of circuit b -/
theorem yf_174 {post : Int32 → Prop} {J : Int32 → Int32 → Prop} {a b d : Nat} {t : Nat → Nat} {P Q : Nat → Bool} (A : dv_A ty ga xs ys T G X Y) (ht : ∀ i, i < 6 → to i = nI (t i)) (tl : ∀ i, i < 6 → t i < 6) (ha : a < 2) (hb : b < 2) (hd : d < 7)
    (hP : ∀ e, e < 7 → (P e = true ↔ (th_H th (7 * a + e) = true ∧ th_H th (7 * b + d) = true ∧ dv_S T G X Y t (7 * a + e) (7 * b + d))))
    (hQ : ∀ e, e < 7 → (Q e = true ↔ (th_H th (7 * b + e) = true ∧ th_H th (7 * b + d) = true ∧ dv_S T G X Y (fun i => i) (7 * b + e) (7 * b + d))))
    (j1 : pm_tot P 7 = pm_tot Q 7 → J 1 (nI (d + 1))) (j0 : pm_tot P 7 ≠ pm_tot Q 7 → J 0 (nI (d + 1))) :
    ∀ f e m, e + f = 7 → f < m → wY_fits_174 post J (nI a) (nI b) (nI d) th ty ga xs ys nn to m (nI (pm_tot P e)) (nI (pm_tot Q e)) (nI e) := by
  intro f
  induction f with
  | zero =>
    intro e m he hm
    obtain ⟨m, rfl⟩ : ∃ j, m = j + 1 := ⟨m - 1, by omega⟩
    have e7 : e = 7 := by omega
    have l1 := pm_tot_le P 7
    have l2 := pm_tot_le Q 7
    rw [e7]
    exact br_t (by decide) (pk_eq _ _ (fun h => nm_r (nI_1 d) (j1 h)) (fun h => nm_r (nI_1 d) (j0 h)) rfl rfl (by omega) (by omega))
  | succ f ih =>
    intro e m he hm
    obtain ⟨m, rfl⟩ : ∃ j, m = j + 1 := ⟨m - 1, by omega⟩
    have he7 : e < 7 := by omega
    refine br_f (nI_ge (b := 7) he7 (by decide)) ?_
    rw [ix_7', ix_7']
    have second : ∀ p : Nat, p = pm_tot P (e + 1) → wY_fits_212 post J (wY_fits_174 post J (nI a) (nI b) (nI d) th ty ga xs ys nn to m) (nI a) (nI b) (nI d) (nI (pm_tot Q e)) (nI e) (nI p) th ty ga xs ys nn to := by
      intro p hp
      unfold wY_fits_212
      rw [ix_7', ix_7']
      refine ys_n A (by omega) (by omega) (fun z1 z2 z3 => br_f (by decide) ?_) (fun z => br_t rfl ?_)
      · have q1 : pm_tot Q (e + 1) = pm_tot Q e + 1 := by
          simp only [pm_tot]
          rw [if_pos ((hQ e he7).mpr ⟨z1, z2, z3⟩)]
        refine nm_r (nI_1 _) (nm_r (nI_1 e) ?_)
        rw [← q1, hp]
        exact ih (e + 1) m (by omega) (by omega)
      · have q1 : pm_tot Q (e + 1) = pm_tot Q e := by
          simp only [pm_tot]
          rw [if_neg (fun h => z ((hQ e he7).mp h))]
          rfl
        refine nm_r (nI_1 e) ?_
        rw [← q1, hp]
        exact ih (e + 1) m (by omega) (by omega)
    refine ys_m A ht tl (by omega) (by omega) (fun z1 z2 z3 => br_f (by decide) ?_) (fun z => br_t rfl ?_)
    · rw [nI_1]
      exact second _ (by
        simp only [pm_tot]
        rw [if_pos ((hP e he7).mpr ⟨z1, z2, z3⟩)])
    · exact second _ (by
        simp only [pm_tot]
        rw [if_neg (fun h => z ((hP e he7).mp h))]
        rfl)
theorem yf_154z {post : Int32 → Prop} {a b d : Int32} (h : post 0) (m : Nat) : wY_fits_154 post a b th ty ga xs ys nn to (m + 1) 0 d :=
  br_c (fun _ => ⟨rfl, h⟩) (fun _ => br_t rfl ⟨rfl, h⟩)
theorem yf_154 {post : Int32 → Prop} {a b : Nat} {t : Nat → Nat} {P Q : Nat → Nat → Bool} (A : dv_A ty ga xs ys T G X Y) (ht : ∀ i, i < 6 → to i = nI (t i)) (tl : ∀ i, i < 6 → t i < 6) (ha : a < 2) (hb : b < 2)
    (hP : ∀ d, d < 7 → ∀ e, e < 7 → (P d e = true ↔ (th_H th (7 * a + e) = true ∧ th_H th (7 * b + d) = true ∧ dv_S T G X Y t (7 * a + e) (7 * b + d))))
    (hQ : ∀ d, d < 7 → ∀ e, e < 7 → (Q d e = true ↔ (th_H th (7 * b + e) = true ∧ th_H th (7 * b + d) = true ∧ dv_S T G X Y (fun i => i) (7 * b + e) (7 * b + d))))
    (h1 : (∀ d, d < 7 → pm_tot (P d) 7 = pm_tot (Q d) 7) → post 1) (h0 : ¬ (∀ d, d < 7 → pm_tot (P d) 7 = pm_tot (Q d) 7) → post 0) :
    ∀ f d m, d + f = 7 → f + 1 < m → (∀ c, c < d → pm_tot (P c) 7 = pm_tot (Q c) 7) → wY_fits_154 post (nI a) (nI b) th ty ga xs ys nn to m 1 (nI d) := by
  intro f
  induction f with
  | zero =>
    intro d m hd hm hE
    obtain ⟨m, rfl⟩ : ∃ j, m = j + 1 := ⟨m - 1, by omega⟩
    have e7 : d = 7 := by omega
    rw [e7] at hE ⊢
    exact br_t (by decide) ⟨rfl, h1 hE⟩
  | succ f ih =>
    intro d m hd hm hE
    obtain ⟨m, rfl⟩ : ∃ j, m = j + 2 := ⟨m - 2, by omega⟩
    have hd7 : d < 7 := by omega
    refine br_f (nI_ge (b := 7) hd7 (by decide)) (br_f (by decide) ⟨8, ?_⟩)
    refine yf_174 A ht tl ha hb hd7 (hP d hd7) (hQ d hd7) (fun e => ?_) (fun e => ?_) 7 0 8 rfl (by decide)
    · refine ih (d + 1) (m + 1) (by omega) (by omega) (fun c hc => ?_)
      rcases Nat.lt_or_ge c d with z | z
      · exact hE c z
      · have e2 : c = d := by omega
        rw [e2]
        exact e
    · exact yf_154z (h0 (fun h => e (h d hd7))) m
theorem yf_69 {post : Int32 → Prop} {a b : Nat} {x3 : Int32} (ha : a < 2) (hb : b < 2)
    (k : (((x3 = 0 → (∃ n154 : Nat, wY_fits_154 post (nI a) (nI b) th ty ga xs ys nn to n154 0 0)) ∧ (¬ x3 = 0 → (((nI (pm_tot (fun d => th_H th (7 * a + d)) 7) = nI (pm_tot (fun d => th_H th (7 * b + d)) 7) → (∃ n154 : Nat, wY_fits_154 post (nI a) (nI b) th ty ga xs ys nn to n154 1 0)) ∧ (¬ nI (pm_tot (fun d => th_H th (7 * a + d)) 7) = nI (pm_tot (fun d => th_H th (7 * b + d)) 7) → (∃ n154 : Nat, wY_fits_154 post (nI a) (nI b) th ty ga xs ys nn to n154 0 0)))))))) :
    ∀ f d m, d + f = 7 → f < m → wY_fits_69 post (nI a) (nI b) x3 th ty ga xs ys nn to m (nI (pm_tot (fun d => th_H th (7 * a + d)) d)) (nI (pm_tot (fun d => th_H th (7 * b + d)) d)) (nI d) := by
  intro f
  induction f with
  | zero =>
    intro d m hd hm
    obtain ⟨m, rfl⟩ : ∃ j, m = j + 1 := ⟨m - 1, by omega⟩
    have e7 : d = 7 := by omega
    rw [e7]
    exact br_t (by decide) k
  | succ f ih =>
    intro d m hd hm
    obtain ⟨m, rfl⟩ : ∃ j, m = j + 1 := ⟨m - 1, by omega⟩
    have hd7 : d < 7 := by omega
    refine br_f (nI_ge (b := 7) hd7 (by decide)) ?_
    rw [ix_7']
    have second : ∀ p : Nat, p = pm_tot (fun d => th_H th (7 * a + d)) (d + 1) → wY_fits_100 post (wY_fits_69 post (nI a) (nI b) x3 th ty ga xs ys nn to m) (nI a) (nI b) x3 (nI (pm_tot (fun d => th_H th (7 * b + d)) d)) (nI d) (nI p) th ty ga xs ys nn to := by
      intro p hp
      unfold wY_fits_100
      rw [ix_7']
      refine ⟨vp_in_nI (by omega) (by decide), ek_if (th_f (by omega)) (fun z => ?_) (fun z => ?_)⟩
      · have q1 : pm_tot (fun d => th_H th (7 * b + d)) (d + 1) = pm_tot (fun d => th_H th (7 * b + d)) d := by
          simp only [pm_tot]
          rw [if_neg (th_cl z)]
          rfl
        refine nm_r (nI_1 d) ?_
        rw [← q1, hp]
        exact ih (d + 1) m (by omega) (by omega)
      · have q1 : pm_tot (fun d => th_H th (7 * b + d)) (d + 1) = pm_tot (fun d => th_H th (7 * b + d)) d + 1 := by
          simp only [pm_tot]
          rw [if_pos (th_nf z)]
        refine nm_r (nI_1 _) (nm_r (nI_1 d) ?_)
        rw [← q1, hp]
        exact ih (d + 1) m (by omega) (by omega)
    refine ⟨vp_in_nI (by omega) (by decide), ek_if (th_f (by omega)) (fun z => ?_) (fun z => ?_)⟩
    · exact second _ (by
        simp only [pm_tot]
        rw [if_neg (th_cl z)]
        rfl)
    · rw [nI_1]
      exact second _ (by
        simp only [pm_tot]
        rw [if_pos (th_nf z)])
/-- an assignment of nets fits: names and devices -/
def fi_N (nn : Nat → Int32) (a b : Nat) (t : Nat → Nat) : Prop := ∀ i, i < 6 → nn (6 * a + i) = nn (6 * b + t i)
def fi_D (T G X Y : Nat → Nat) (p q : Nat → Bool) (a b : Nat) (t : Nat → Nat) : Prop := ∀ z, pm_cnt p (fun d => dv_K T G X Y t (7 * a + d)) z 7 = pm_cnt q (fun d => dv_K T G X Y (fun i => i) (7 * b + d)) z 7
theorem yf_5z {post : Int32 → Prop} {a b : Nat} (h : ∃ n, wY_fits_69 post (nI a) (nI b) 0 th ty ga xs ys nn to n 0 0 0) : ∀ f i m, i + f = 6 → f < m → wY_fits_5 post (nI a) (nI b) th ty ga xs ys nn to m 0 (nI i) := by
  intro f
  induction f with
  | zero =>
    intro i m hi hm
    obtain ⟨m, rfl⟩ : ∃ j, m = j + 1 := ⟨m - 1, by omega⟩
    have e6 : i = 6 := by omega
    rw [e6]
    exact br_t (by decide) h
  | succ f ih =>
    intro i m hi hm
    obtain ⟨m, rfl⟩ : ∃ j, m = j + 1 := ⟨m - 1, by omega⟩
    exact br_f (nI_ge (b := 6) (by omega) (by decide)) (br_t rfl (nm_r (nI_1 i) (ih (i + 1) m (by omega) (by omega))))
theorem yf_5 {post : Int32 → Prop} {a b : Nat} {t : Nat → Nat} (ht : ∀ i, i < 6 → to i = nI (t i)) (tl : ∀ i, i < 6 → t i < 6) (ha : a < 2) (hb : b < 2)
    (h1 : fi_N nn a b t → ∃ n, wY_fits_69 post (nI a) (nI b) 1 th ty ga xs ys nn to n 0 0 0) (h0 : ¬ fi_N nn a b t → ∃ n, wY_fits_69 post (nI a) (nI b) 0 th ty ga xs ys nn to n 0 0 0) :
    ∀ f i m, i + f = 6 → f < m → (∀ j, j < i → nn (6 * a + j) = nn (6 * b + t j)) → wY_fits_5 post (nI a) (nI b) th ty ga xs ys nn to m 1 (nI i) := by
  intro f
  induction f with
  | zero =>
    intro i m hi hm hE
    obtain ⟨m, rfl⟩ : ∃ j, m = j + 1 := ⟨m - 1, by omega⟩
    have e6 : i = 6 := by omega
    rw [e6] at hE ⊢
    exact br_t (by decide) (h1 hE)
  | succ f ih =>
    intro i m hi hm hE
    obtain ⟨m, rfl⟩ : ∃ j, m = j + 1 := ⟨m - 1, by omega⟩
    have hi6 : i < 6 := by omega
    have t6 := tl i hi6
    have et : to (nI i).toNatClampNeg = nI (t i) := cm_at (by omega) (ht i hi6)
    refine br_f (nI_ge (b := 6) hi6 (by decide)) (br_f (by decide) ?_)
    rw [et, ix_6', ix_6', nI_clamp (by omega), nI_clamp (by omega)]
    refine ⟨vp_in_nI (by omega) (by decide), vp_in_nI hi6 (by decide), vp_in_nI (by omega) (by decide), br_c (fun e => ?_) (fun e => ?_)⟩
    · refine nm_r (nI_1 i) (ih (i + 1) m (by omega) (by omega) (fun j hj => ?_))
      rcases Nat.lt_or_ge j i with z | z
      · exact hE j z
      · have e2 : j = i := by omega
        rw [e2]
        exact e
    · exact nm_r (nI_1 i) (yf_5z (h0 (fun h => e (h i hi6))) f (i + 1) m (by omega) (by omega))
theorem pm_tot_cnt {p : Nat → Bool} {k : Nat → Nat} {z : Nat} {Q : Nat → Bool} : ∀ n, (∀ e, e < n → (Q e = true ↔ (p e = true ∧ k e = z))) → pm_tot Q n = pm_cnt p k z n := by
  intro n
  induction n with
  | zero => intro _; rfl
  | succ n ih =>
    intro h
    simp only [pm_tot, pm_cnt]
    rw [ih (fun e he => h e (by omega))]
    by_cases c : p n = true ∧ k n = z
    · rw [if_pos c, if_pos ((h n (by omega)).mpr c)]
    · rw [if_neg c, if_neg (fun w => c ((h n (by omega)).mp w))]
theorem yw_fits {post : Int32 → Prop} {a b : Nat} {t : Nat → Nat} (A : dv_A ty ga xs ys T G X Y) (ht : ∀ i, i < 6 → to i = nI (t i)) (tl : ∀ i, i < 6 → t i < 6) (ha : a < 2) (hb : b < 2)
    (h1 : fi_N nn a b t → fi_D T G X Y (fun d => th_H th (7 * a + d)) (fun d => th_H th (7 * b + d)) a b t → post 1)
    (h0 : ¬ (fi_N nn a b t ∧ fi_D T G X Y (fun d => th_H th (7 * a + d)) (fun d => th_H th (7 * b + d)) a b t) → post 0) : wpY_fits post (th, ty, ga, xs, ys, nn, to) (nI a) (nI b) := by
  have zero : post 0 → ∃ n, wY_fits_154 post (nI a) (nI b) th ty ga xs ys nn to n 0 0 := fun h => ⟨1, yf_154z h 0⟩
  have idl : ∀ i, i < 6 → (fun i : Nat => i) i < 6 := fun i h => h
  have ref := pm_ref (p := fun d => th_H th (7 * a + d)) (q := fun d => th_H th (7 * b + d)) (kl := fun d => dv_K T G X Y t (7 * a + d)) (kr := fun d => dv_K T G X Y (fun i => i) (7 * b + d)) (B := 648) (fun d _ _ => dv_K_lt A.2 tl _) (fun d _ _ => dv_K_lt A.2 idl _)
  have lA := pm_tot_le (fun d => th_H th (7 * a + d)) 7
  have lB := pm_tot_le (fun d => th_H th (7 * b + d)) 7
  refine ⟨7, yf_5 ht tl ha hb (fun hn => ⟨8, ?_⟩) (fun hn => ⟨8, ?_⟩) 6 0 7 rfl (by decide) (fun j h => absurd h (Nat.not_lt_zero j))⟩
  · refine yf_69 ha hb (br_f (by decide) (pk_eq _ _ (fun e => ⟨9, ?_⟩) (fun e => ?_) rfl rfl (by omega) (by omega))) 7 0 8 rfl (by decide)
    · have cP : ∀ d, d < 7 → th_H th (7 * b + d) = true → pm_tot (fun e => th_H th (7 * a + e) && (th_H th (7 * b + d) && decide (dv_K T G X Y t (7 * a + e) = dv_K T G X Y (fun i => i) (7 * b + d)))) 7 = pm_cnt (fun d => th_H th (7 * a + d)) (fun d => dv_K T G X Y t (7 * a + d)) (dv_K T G X Y (fun i => i) (7 * b + d)) 7 := fun d _ hd => pm_tot_cnt 7 (fun e _ => by simp [hd])
      have cQ : ∀ d, d < 7 → th_H th (7 * b + d) = true → pm_tot (fun e => th_H th (7 * b + e) && (th_H th (7 * b + d) && decide (dv_K T G X Y (fun i => i) (7 * b + e) = dv_K T G X Y (fun i => i) (7 * b + d)))) 7 = pm_cnt (fun d => th_H th (7 * b + d)) (fun d => dv_K T G X Y (fun i => i) (7 * b + d)) (dv_K T G X Y (fun i => i) (7 * b + d)) 7 := fun d _ hd => pm_tot_cnt 7 (fun e _ => by simp [hd])
      have cF : ∀ (d : Nat) (R : Nat → Bool) (D : Nat → Bool), th_H th (7 * b + d) = false → pm_tot (fun e => R e && (th_H th (7 * b + d) && D e)) 7 = 0 := fun d R D hd => (pm_tot_0 7).mpr (fun c _ => by simp [hd])
      have key : (∀ d, d < 7 → pm_tot (fun e => th_H th (7 * a + e) && (th_H th (7 * b + d) && decide (dv_K T G X Y t (7 * a + e) = dv_K T G X Y (fun i => i) (7 * b + d)))) 7 = pm_tot (fun e => th_H th (7 * b + e) && (th_H th (7 * b + d) && decide (dv_K T G X Y (fun i => i) (7 * b + e) = dv_K T G X Y (fun i => i) (7 * b + d)))) 7) ↔ fi_D T G X Y (fun d => th_H th (7 * a + d)) (fun d => th_H th (7 * b + d)) a b t := by
        constructor
        · intro h
          refine ref.mp ⟨e, fun d hd hq => ?_⟩
          have h2 := h d hd
          rw [cP d hd hq, cQ d hd hq] at h2
          exact h2
        · intro h d hd
          cases hq : th_H th (7 * b + d) with
          | false =>
            rw [← hq, cF d _ _ hq, cF d _ _ hq]
          | true =>
            rw [← hq, cP d hd hq, cQ d hd hq]
            exact h _
      refine yf_154 (P := fun d e => th_H th (7 * a + e) && (th_H th (7 * b + d) && decide (dv_K T G X Y t (7 * a + e) = dv_K T G X Y (fun i => i) (7 * b + d)))) (Q := fun d e => th_H th (7 * b + e) && (th_H th (7 * b + d) && decide (dv_K T G X Y (fun i => i) (7 * b + e) = dv_K T G X Y (fun i => i) (7 * b + d)))) A ht tl ha hb ?_ ?_ (fun h => h1 hn (key.mp h)) (fun h => h0 (fun z => h (key.mpr z.2))) 7 0 9 rfl (by decide) (fun c h => absurd h (Nat.not_lt_zero c))
      · intro d _ e _
        show (th_H th (7 * a + e) && (th_H th (7 * b + d) && decide (dv_K T G X Y t (7 * a + e) = dv_K T G X Y (fun i => i) (7 * b + d)))) = true ↔ _
        rw [Bool.and_eq_true, Bool.and_eq_true, decide_eq_true_iff, dv_K_iff A.2 tl]
      · intro d _ e _
        show (th_H th (7 * b + e) && (th_H th (7 * b + d) && decide (dv_K T G X Y (fun i => i) (7 * b + e) = dv_K T G X Y (fun i => i) (7 * b + d)))) = true ↔ _
        rw [Bool.and_eq_true, Bool.and_eq_true, decide_eq_true_iff, dv_K_iff A.2 idl]
    · exact zero (h0 (fun z => e (ref.mpr z.2).1))
  · exact yf_69 ha hb (br_t rfl (zero (h0 (fun z => hn z.1)))) 7 0 8 rfl (by decide)
end YSAME
end
section
/-! the class: the same device, the pairing, the names -/
section XSAME
variable {fd : Int32} {nm ty ga xs ys pr tr fm im : Nat → Int32} {T G X Y : Nat → Nat}
theorem xs_95 {post : Int32 → Prop} {r x y : Nat} (A : dv_A ty ga xs ys T G X Y) (hr : r < 14) (hx : x < 100) (hy : y < 100)
    (h1 : x = Y r ∧ y = X r → post 1) (h0 : ¬ (x = Y r ∧ y = X r) → post 0) : wX_sameDevice_95 post (nI r) (nI x) (nI y) fd nm ty ga xs ys pr tr fm im := by
  have ir : vp_in (nI r) 14 := vp_in_nI hr (by decide)
  have ex' : nI x = ys (nI r).toNatClampNeg ↔ x = Y r := cm_eq rfl (dv_Y A (by omega)) hx (dv_bY A r)
  have ey' : nI y = xs (nI r).toNatClampNeg ↔ y = X r := cm_eq rfl (dv_X A (by omega)) hy (dv_bX A r)
  exact ⟨ir, ek_if ex' (fun a => ⟨ir, ek_if ey' (fun b => h1 ⟨a, b⟩) (fun b => h0 (fun z => b z.2))⟩) (fun a => h0 (fun z => a z.1))⟩
theorem xs_49 {post : Int32 → Prop} {l r : Nat} {t : Nat → Nat} (A : dv_A ty ga xs ys T G X Y) (ht : ∀ i, i < 6 → tr i = nI (t i)) (tl : ∀ i, i < 6 → t i < 6) (hl : l < 14) (hr : r < 14)
    (h1 : ((t (X l) = X r ∧ t (Y l) = Y r) ∨ (t (X l) = Y r ∧ t (Y l) = X r)) → post 1)
    (h0 : ¬ ((t (X l) = X r ∧ t (Y l) = Y r) ∨ (t (X l) = Y r ∧ t (Y l) = X r)) → post 0) : wX_sameDevice_49 post (nI l) (nI r) fd nm ty ga xs ys pr tr fm im := by
  have il : vp_in (nI l) 14 := vp_in_nI hl (by decide)
  have ir : vp_in (nI r) 14 := vp_in_nI hr (by decide)
  have x6 := (A.2 l).2.2.1
  have y6 := (A.2 l).2.2.2
  have ex : tr (xs (nI l).toNatClampNeg).toNatClampNeg = nI (t (X l)) := by
    rw [dv_X A (by omega)]
    exact cm_at (by omega) (ht _ x6)
  have ey : tr (ys (nI l).toNatClampNeg).toNatClampNeg = nI (t (Y l)) := by
    rw [dv_Y A (by omega)]
    exact cm_at (by omega) (ht _ y6)
  have b2 := tl _ x6
  have b3 := tl _ y6
  have e1 : nI (t (X l)) = xs (nI r).toNatClampNeg ↔ t (X l) = X r := cm_eq rfl (dv_X A (by omega)) (by omega) (dv_bX A r)
  have e2 : nI (t (Y l)) = ys (nI r).toNatClampNeg ↔ t (Y l) = Y r := cm_eq rfl (dv_Y A (by omega)) (by omega) (dv_bY A r)
  have h95 : ¬ (t (X l) = X r ∧ t (Y l) = Y r) → wX_sameDevice_95 post (nI r) (nI (t (X l))) (nI (t (Y l))) fd nm ty ga xs ys pr tr fm im := fun n =>
    xs_95 A hr (by omega) (by omega) (fun z => h1 (Or.inr z)) (fun z => h0 (fun w => w.elim n z))
  refine ⟨il, cm_in (dv_X A (by omega)) x6 (by decide), nm_r ex ⟨il, cm_in (dv_Y A (by omega)) y6 (by decide), nm_r ey ⟨ir, ?_⟩⟩⟩
  exact ek_if e1 (fun a => ⟨ir, ek_if e2 (fun b => h1 (Or.inl ⟨a, b⟩)) (fun b => h95 (fun z => b z.2))⟩) (fun a => h95 (fun z => a z.1))
theorem xw_same {post : Int32 → Prop} {l r : Nat} {t : Nat → Nat} (A : dv_A ty ga xs ys T G X Y) (ht : ∀ i, i < 6 → tr i = nI (t i)) (tl : ∀ i, i < 6 → t i < 6) (hl : l < 14) (hr : r < 14)
    (h1 : dv_S T G X Y t l r → post 1) (h0 : ¬ dv_S T G X Y t l r → post 0) : wpX_sameDevice post (fd, nm, ty, ga, xs, ys, pr, tr, fm, im) (nI l) (nI r) := by
  have il : vp_in (nI l) 14 := vp_in_nI hl (by decide)
  have ir : vp_in (nI r) 14 := vp_in_nI hr (by decide)
  have g6 := (A.2 l).2.1
  have b1 := tl _ g6
  have eg : tr (ga (nI l).toNatClampNeg).toNatClampNeg = nI (t (G l)) := by
    rw [dv_G A (by omega)]
    exact cm_at (by omega) (ht _ g6)
  refine ⟨il, ir, ek_if (cm_eq (dv_T A (by omega)) (dv_T A (by omega)) (dv_bT A l) (dv_bT A r)) (fun c => ⟨il, ?_⟩) (fun c => h0 (fun z => c z.1))⟩
  refine ek_if (cm_eq (q := 2) (dv_T A (by omega)) rfl (dv_bT A l) (by decide)) (fun d => ?_) (fun d => ⟨il, cm_in (dv_G A (by omega)) g6 (by decide), ir, ?_⟩)
  · exact xs_49 A ht tl hl hr (fun e => h1 ⟨c, Or.inl d, e⟩) (fun e => h0 (fun z => e z.2.2))
  · refine ek_if (cm_eq eg (dv_G A (by omega)) (by omega) (dv_bG A r)) (fun g => ?_) (fun g => h0 (fun z => z.2.1.elim d g))
    exact xs_49 A ht tl hl hr (fun e => h1 ⟨c, Or.inr g, e⟩) (fun e => h0 (fun z => e z.2.2))
theorem xf_3 {post : Int32 → Prop} {l b u : Nat} {t : Nat → Nat} (A : dv_A ty ga xs ys T G X Y) (ht : ∀ i, i < 6 → tr i = nI (t i)) (tl : ∀ i, i < 6 → t i < 6) (hl : l < 14) (hb : b < 2) (hu : u < 128)
    (h1 : ∀ e, e < 7 → u.testBit e = true → dv_S T G X Y t l (7 * b + e) → post (nI e))
    (h0 : (∀ e, e < 7 → u.testBit e = true → ¬ dv_S T G X Y t l (7 * b + e)) → post (-1)) :
    ∀ f e m, e + f = 7 → f < m → (∀ d, d < e → u.testBit d = true → ¬ dv_S T G X Y t l (7 * b + d)) → wX_findPartner_3 post (nI l) (nI b) (nI u) fd nm ty ga xs ys pr tr fm im m (nI e) := by
  intro f
  induction f with
  | zero =>
    intro e m he hm hE
    obtain ⟨m, rfl⟩ : ∃ j, m = j + 1 := ⟨m - 1, by omega⟩
    have e7 : e = 7 := by omega
    rw [e7] at hE ⊢
    exact br_t (by decide) (h0 hE)
  | succ f ih =>
    intro e m he hm hE
    obtain ⟨m, rfl⟩ : ∃ j, m = j + 1 := ⟨m - 1, by omega⟩
    have e7 : e < 7 := by omega
    refine br_f (nI_ge (b := 7) e7 (by decide)) (hb_X hu e7 (fun hbit => br_f (by decide) ?_) (fun hbit => br_t rfl (nm_r (nI_1 e) (ih (e + 1) m (by omega) (by omega) ?_))))
    · rw [ix_7]
      refine xw_same A ht tl hl (by omega) (fun s => br_f (by decide) (h1 e e7 hbit s)) (fun s => br_t rfl (nm_r (nI_1 e) (ih (e + 1) m (by omega) (by omega) ?_)))
      intro d hd hd2
      rcases Nat.lt_or_ge d e with z | z
      · exact hE d z hd2
      · have e2 : d = e := by omega
        rw [e2]
        exact s
    · intro d hd hd2
      rcases Nat.lt_or_ge d e with z | z
      · exact hE d z hd2
      · have e2 : d = e := by omega
        rw [e2, hbit] at hd2
        exact absurd hd2 (by decide)
theorem pm_cnt_le {p : Nat → Bool} {k : Nat → Nat} {z : Nat} : ∀ n d, pm_cnt p k z d ≤ pm_cnt p k z (d + n) := by
  intro n
  induction n with
  | zero => intro d; exact Nat.le_refl _
  | succ n ih =>
    intro d
    have h := ih d
    show pm_cnt p k z d ≤ pm_cnt p k z (d + n) + _
    omega
theorem xd_11 {post : Int32 → Prop} {a b L R : Nat} {t : Nat → Nat} (A : dv_A ty ga xs ys T G X Y) (ht : ∀ i, i < 6 → tr i = nI (t i)) (tl : ∀ i, i < 6 → t i < 6) (ha : a < 2) (hb : b < 2) (hL : L < 128)
    (h1 : fi_D T G X Y (fun d => L.testBit d) (fun d => R.testBit d) a b t → post 1)
    (h0 : ¬ fi_D T G X Y (fun d => L.testBit d) (fun d => R.testBit d) a b t → post 0) :
    ∀ f d m u, d + f = 7 → f < m → u < 128 → (∀ z, pm_cnt (fun e => u.testBit e) (fun e => dv_K T G X Y (fun i => i) (7 * b + e)) z 7 + pm_cnt (fun e => L.testBit e) (fun e => dv_K T G X Y t (7 * a + e)) z d = pm_cnt (fun e => R.testBit e) (fun e => dv_K T G X Y (fun i => i) (7 * b + e)) z 7) → wX_devicesAgree_11 post (nI a) (nI L) (nI b) fd nm ty ga xs ys pr tr fm im m (nI u) (nI d) := by
  intro f
  induction f with
  | zero =>
    intro d m u hd hm hu hE
    obtain ⟨m, rfl⟩ : ∃ j, m = j + 1 := ⟨m - 1, by omega⟩
    have e7 : d = 7 := by omega
    rw [e7] at hE ⊢
    refine br_t (by decide) (pk_eq u 0 (fun e => h1 (fun z => ?_)) (fun e => h0 (fun w => ?_)) rfl rfl (by omega) (by omega))
    · have h2 := hE z
      have h3 : pm_cnt (fun e => u.testBit e) (fun e => dv_K T G X Y (fun i => i) (7 * b + e)) z 7 = 0 := by
        rcases Nat.eq_zero_or_pos (pm_cnt (fun e => u.testBit e) (fun e => dv_K T G X Y (fun i => i) (7 * b + e)) z 7) with c | c
        · exact c
        · obtain ⟨x, _, h4, _⟩ := pm_cnt_ex 7 c
          rw [e] at h4
          simp at h4
      rw [h3, Nat.zero_add] at h2
      exact h2
    · obtain ⟨j, hj, hjb⟩ := bs_zero u hu e
      have h2 := hE (dv_K T G X Y (fun i => i) (7 * b + j))
      have h3 := pm_cnt_pos (p := fun e => u.testBit e) (k := fun e => dv_K T G X Y (fun i => i) (7 * b + e)) (z := dv_K T G X Y (fun i => i) (7 * b + j)) 7 j hj hjb rfl
      have h4 := w (dv_K T G X Y (fun i => i) (7 * b + j))
      omega
  | succ f ih =>
    intro d m u hd hm hu hE
    obtain ⟨m, rfl⟩ : ∃ j, m = j + 1 := ⟨m - 1, by omega⟩
    have d7 : d < 7 := by omega
    refine br_f (nI_ge (b := 7) d7 (by decide)) (hb_X hL d7 (fun hbit => br_f (by decide) ?_) (fun hbit => br_t rfl (nm_r (nI_1 d) (ih (d + 1) m u (by omega) (by omega) hu (fun z => ?_)))))
    · rw [ix_7]
      refine ⟨8, xf_3 A ht tl (by omega) hb hu (fun e e7 hub hs => ?_) (fun hn => br_t rfl (h0 (fun w => ?_))) 7 0 8 rfl (by decide) (fun d h => absurd h (Nat.not_lt_zero d))⟩
      · have c := bs_clrI u hu e e7
        have hne : ¬ nI e = -1 := fun h => by
          have h5 := nI_pos (n := e) (by omega)
          rw [h] at h5
          exact h5 (by decide)
        refine br_f hne (nm_r c.1 (nm_r (nI_1 d) (ih (d + 1) m (bs_clr u e) (by omega) (by omega) c.2 (fun z => ?_))))
        have h2 := hE z
        have h3 := pm_rm (U := fun e => u.testBit e) (V := fun j => (bs_clr u e).testBit j) (k := fun e => dv_K T G X Y (fun i => i) (7 * b + e)) (e := e) z 7 e7 hub (fun j hj => bs_clrT u hu e e7 j hj)
        have h4 : dv_K T G X Y t (7 * a + d) = dv_K T G X Y (fun i => i) (7 * b + e) := (dv_K_iff A.2 tl _ _).mpr hs
        simp only [pm_cnt] at h2 h3 ⊢
        simp only [hbit, true_and]
        rw [h4]
        omega
      · have h2 := hE (dv_K T G X Y t (7 * a + d))
        have h3 : pm_cnt (fun e => u.testBit e) (fun e => dv_K T G X Y (fun i => i) (7 * b + e)) (dv_K T G X Y t (7 * a + d)) 7 = 0 := by
          rcases Nat.eq_zero_or_pos (pm_cnt (fun e => u.testBit e) (fun e => dv_K T G X Y (fun i => i) (7 * b + e)) (dv_K T G X Y t (7 * a + d)) 7) with c | c
          · exact c
          · obtain ⟨x, hx, h4, h5⟩ := pm_cnt_ex 7 c
            exact absurd ((dv_K_iff A.2 tl _ _).mp h5.symm) (hn x hx h4)
        have h4 : pm_cnt (fun e => L.testBit e) (fun e => dv_K T G X Y t (7 * a + e)) (dv_K T G X Y t (7 * a + d)) (d + 1) = pm_cnt (fun e => L.testBit e) (fun e => dv_K T G X Y t (7 * a + e)) (dv_K T G X Y t (7 * a + d)) d + 1 := by
          show _ + (if L.testBit d = true ∧ _ then 1 else 0) = _
          rw [if_pos ⟨hbit, rfl⟩]
        have h5 := pm_cnt_le (p := fun e => L.testBit e) (k := fun e => dv_K T G X Y t (7 * a + e)) (z := dv_K T G X Y t (7 * a + d)) f (d + 1)
        have h6 := w (dv_K T G X Y t (7 * a + d))
        rw [show d + 1 + f = 7 by omega] at h5
        omega
    · have h2 := hE z
      have h4 : pm_cnt (fun e => L.testBit e) (fun e => dv_K T G X Y t (7 * a + e)) z (d + 1) = pm_cnt (fun e => L.testBit e) (fun e => dv_K T G X Y t (7 * a + e)) z d := by
        show _ + (if L.testBit d = true ∧ _ then 1 else 0) = _
        rw [if_neg (fun w => th_cl hbit w.1)]
        rfl
      rw [h4]
      exact h2
theorem xw_devs {post : Int32 → Prop} {a b L R : Nat} {t : Nat → Nat} (A : dv_A ty ga xs ys T G X Y) (ht : ∀ i, i < 6 → tr i = nI (t i)) (tl : ∀ i, i < 6 → t i < 6) (ha : a < 2) (hb : b < 2) (hL : L < 128) (hR : R < 128) (ep : pr b = nI R)
    (h1 : fi_D T G X Y (fun d => L.testBit d) (fun d => R.testBit d) a b t → post 1)
    (h0 : ¬ fi_D T G X Y (fun d => L.testBit d) (fun d => R.testBit d) a b t → post 0) : wpX_devicesAgree post (fd, nm, ty, ga, xs, ys, pr, tr, fm, im) (nI a) (nI L) (nI b) :=
  ⟨vp_in_nI hb (by decide), nm_r (cm_at (by omega) ep) ⟨8, xd_11 A ht tl ha hb hL h1 h0 7 0 8 R rfl (by decide) hR (fun z => rfl)⟩⟩
theorem xn_2 {post : Int32 → Prop} {a b : Nat} {t : Nat → Nat} (ht : ∀ i, i < 6 → tr i = nI (t i)) (tl : ∀ i, i < 6 → t i < 6) (ha : a < 2) (hb : b < 2)
    (h1 : fi_N nm a b t → post 1) (h0 : ¬ fi_N nm a b t → post 0) :
    ∀ f i m, i + f = 6 → f < m → (∀ j, j < i → nm (6 * a + j) = nm (6 * b + t j)) → wX_namesAgree_2 post (nI a) (nI b) fd nm ty ga xs ys pr tr fm im m (nI i) := by
  intro f
  induction f with
  | zero =>
    intro i m hi hm hE
    obtain ⟨m, rfl⟩ : ∃ j, m = j + 1 := ⟨m - 1, by omega⟩
    have e6 : i = 6 := by omega
    rw [e6] at hE ⊢
    exact br_t (by decide) (h1 hE)
  | succ f ih =>
    intro i m hi hm hE
    obtain ⟨m, rfl⟩ : ∃ j, m = j + 1 := ⟨m - 1, by omega⟩
    have hi6 : i < 6 := by omega
    have t6 := tl i hi6
    have et : tr (nI i).toNatClampNeg = nI (t i) := cm_at (by omega) (ht i hi6)
    refine br_f (nI_ge (b := 6) hi6 (by decide)) ?_
    rw [et, ix_6, ix_6, nI_clamp (by omega), nI_clamp (by omega)]
    refine ⟨vp_in_nI (by omega) (by decide), vp_in_nI hi6 (by decide), vp_in_nI (by omega) (by decide), br_c (fun e => ?_) (fun e => ?_)⟩
    · refine nm_r (nI_1 i) (ih (i + 1) m (by omega) (by omega) (fun j hj => ?_))
      rcases Nat.lt_or_ge j i with z | z
      · exact hE j z
      · have e2 : j = i := by omega
        rw [e2]
        exact e
    · exact h0 (fun h => e (h i hi6))
theorem xw_names {post : Int32 → Prop} {a b : Nat} {t : Nat → Nat} (ht : ∀ i, i < 6 → tr i = nI (t i)) (tl : ∀ i, i < 6 → t i < 6) (ha : a < 2) (hb : b < 2)
    (h1 : fi_N nm a b t → post 1) (h0 : ¬ fi_N nm a b t → post 0) : wpX_namesAgree post (fd, nm, ty, ga, xs, ys, pr, tr, fm, im) (nI a) (nI b) :=
  ⟨7, xn_2 ht tl ha hb h1 h0 6 0 7 rfl (by decide) (fun j h => absurd h (Nat.not_lt_zero j))⟩
end XSAME
end
section
/-! the class: the survey over all assignments -/
section XSURV
variable {fd : Int32} {nm ty ga xs ys pr tr fm im : Nat → Int32} {T G X Y : Nat → Nat}
theorem xs_7 {post : SX → Prop} (hp : ∀ tr im : Nat → Int32, (∀ i, i < 6 → tr i = nI i) → (∀ i, i < 6 → im i = 0) → post (fd, nm, ty, ga, xs, ys, pr, tr, fm, im)) : ∀ f k m (tr im : Nat → Int32), k + f = 6 → f < m → (∀ i, i < k → tr i = nI i) → (∀ i, i < k → im i = 0) → wX_startSurvey_7 post fd m (nI k) nm ty ga xs ys pr tr fm im := by
  intro f
  induction f with
  | zero =>
    intro k m tr im hk hm h1 h2
    obtain ⟨m, rfl⟩ : ∃ j, m = j + 1 := ⟨m - 1, by omega⟩
    have e : k = 6 := by omega
    rw [e] at h1 h2 ⊢
    exact br_t (by decide) (hp tr im h1 h2)
  | succ f ih =>
    intro k m tr im hk hm h1 h2
    obtain ⟨m, rfl⟩ : ∃ j, m = j + 1 := ⟨m - 1, by omega⟩
    have k6 : k < 6 := by omega
    have ik : vp_in (nI k) 6 := vp_in_nI k6 (by decide)
    have ec : (nI k).toNatClampNeg = k := nI_clamp (by omega)
    refine br_f (nI_ge (b := 6) k6 (by decide)) ⟨ik, nm_r (e' := upd im k 0) (by rw [ec]) ⟨ik, nm_r (e' := upd tr k (nI k)) (by rw [ec]) (nm_r (nI_1 k) (ih (k + 1) m _ _ (by omega) (by omega) (fun i hi => ?_) (fun i hi => ?_)))⟩⟩
    · rcases Nat.lt_or_ge i k with z | z
      · rw [pk_un (by omega)]
        exact h1 i z
      · have e : i = k := by omega
        rw [e, pk_us]
    · rcases Nat.lt_or_ge i k with z | z
      · rw [pk_un (by omega)]
        exact h2 i z
      · have e : i = k := by omega
        rw [e, pk_us]
theorem xw_start {post : SX → Prop} (hp : ∀ (fd : Int32) (tr im : Nat → Int32), fd = 0 → (∀ i, i < 6 → tr i = nI i) → (∀ i, i < 6 → im i = 0) → post (fd, nm, ty, ga, xs, ys, pr, tr, fm, im)) : wpX_startSurvey post (fd, nm, ty, ga, xs, ys, pr, tr, fm, im) :=
  ⟨7, xs_7 (fd := 0) (fun tr im h1 h2 => hp 0 tr im rfl h1 h2) 6 0 7 tr im rfl (by decide) (fun i h => absurd h (Nat.not_lt_zero i)) (fun i h => absurd h (Nat.not_lt_zero i))⟩
theorem xr_27 {J : Int32 → (Nat → Int32) → (Nat → Int32) → (Nat → Int32) → (Nat → Int32) → (Nat → Int32) → (Nat → Int32) → (Nat → Int32) → (Nat → Int32) → (Nat → Int32) → Prop} {post : SX → Prop} {k t m : Nat} (hk : k < 6) (ht : tr k = nI t) (tl : t < 6) (hm : im k = nI m) (ml : m < 128)
    (h : J (nI (k + 1)) nm ty ga xs ys pr tr fm (upd im k (nI (m ||| 2 ^ t)))) : wX_recordMatch_27 post J (nI k) fd nm ty ga xs ys pr tr fm im := by
  have ik : vp_in (nI k) 6 := vp_in_nI hk (by decide)
  have ec : (nI k).toNatClampNeg = k := nI_clamp (by omega)
  exact ⟨ik, ik, ik, nm_r (e' := upd im k (nI (m ||| 2 ^ t))) (by rw [ec, ht, hm, (bs_set m ml t (by omega)).1]) (nm_r (nI_1 k) h)⟩
theorem xr_2 {post : SX → Prop} {t mj : Nat → Nat} {f : Nat} {fm0 : Nat → Int32} (hf : f < 1000) (ht : ∀ i, i < 6 → tr i = nI (t i)) (tl : ∀ i, i < 6 → t i < 6) (ml : ∀ i, i < 6 → mj i < 128)
    (hp : ∀ fm im : Nat → Int32, (f = 0 → ∀ i, i < 6 → fm i = nI (t i)) → (f ≠ 0 → fm = fm0) → (∀ i, i < 6 → im i = nI (mj i ||| 2 ^ t i)) → post (nI (f + 1), nm, ty, ga, xs, ys, pr, tr, fm, im)) :
    ∀ g k m (fm im : Nat → Int32), k + g = 6 → g < m → (f = 0 → ∀ i, i < k → fm i = nI (t i)) → (f ≠ 0 → fm = fm0) → (∀ i, i < k → im i = nI (mj i ||| 2 ^ t i)) → (∀ i, i < 6 → k ≤ i → im i = nI (mj i)) → wX_recordMatch_2 post (nI f) m (nI k) nm ty ga xs ys pr tr fm im := by
  intro g
  induction g with
  | zero =>
    intro k m fm im hk hm h1 h2 h3 h4
    obtain ⟨m, rfl⟩ : ∃ j, m = j + 1 := ⟨m - 1, by omega⟩
    have e : k = 6 := by omega
    rw [e] at h1 h3 ⊢
    exact br_t (by decide) (nm_r (nI_1 f) (hp fm im h1 h2 h3))
  | succ g ih =>
    intro k m fm im hk hm h1 h2 h3 h4
    obtain ⟨m, rfl⟩ : ∃ j, m = j + 1 := ⟨m - 1, by omega⟩
    have k6 : k < 6 := by omega
    have ik : vp_in (nI k) 6 := vp_in_nI k6 (by decide)
    have ec : (nI k).toNatClampNeg = k := nI_clamp (by omega)
    have i3 : ∀ i, i < k + 1 → upd im k (nI (mj k ||| 2 ^ t k)) i = nI (mj i ||| 2 ^ t i) := fun i hi => by
      rcases Nat.lt_or_ge i k with z | z
      · rw [pk_un (by omega)]
        exact h3 i z
      · have e : i = k := by omega
        rw [e, pk_us]
    have i4 : ∀ i, i < 6 → k + 1 ≤ i → upd im k (nI (mj k ||| 2 ^ t k)) i = nI (mj i) := fun i hi hki => by
      rw [pk_un (by omega)]
      exact h4 i hi (by omega)
    refine br_f (nI_ge (b := 6) k6 (by decide)) (pk_eq f 0 (fun e0 => ⟨ik, ik, nm_r (e' := upd fm k (nI (t k))) (by rw [ec, ht k k6]) ?_⟩) (fun e0 => ?_) rfl rfl (by omega) (by omega))
    · refine xr_27 k6 (ht k k6) (tl k k6) (h4 k k6 (Nat.le_refl k)) (ml k k6) (ih (k + 1) m _ _ (by omega) (by omega) (fun _ i hi => ?_) (fun n => absurd e0 n) i3 i4)
      rcases Nat.lt_or_ge i k with z | z
      · rw [pk_un (by omega)]
        exact h1 e0 i z
      · have e : i = k := by omega
        rw [e, pk_us]
    · exact xr_27 k6 (ht k k6) (tl k k6) (h4 k k6 (Nat.le_refl k)) (ml k k6) (ih (k + 1) m _ _ (by omega) (by omega) (fun z => absurd z e0) h2 i3 i4)
theorem xw_record {post : SX → Prop} {t mj : Nat → Nat} {f : Nat} (hf : f < 1000) (ht : ∀ i, i < 6 → tr i = nI (t i)) (tl : ∀ i, i < 6 → t i < 6) (ml : ∀ i, i < 6 → mj i < 128) (hm : ∀ i, i < 6 → im i = nI (mj i))
    (hp : ∀ fm' im' : Nat → Int32, (f = 0 → ∀ i, i < 6 → fm' i = nI (t i)) → (f ≠ 0 → fm' = fm) → (∀ i, i < 6 → im' i = nI (mj i ||| 2 ^ t i)) → post (nI (f + 1), nm, ty, ga, xs, ys, pr, tr, fm', im')) : wpX_recordMatch post (nI f, nm, ty, ga, xs, ys, pr, tr, fm, im) :=
  ⟨7, xr_2 hf ht tl ml hp 6 0 7 fm im rfl (by decide) (fun _ i h => absurd h (Nat.not_lt_zero i)) (fun _ => rfl) (fun i h => absurd h (Nat.not_lt_zero i)) (fun i h _ => hm i h)⟩
/-! the next assignment -/
theorem xw_swap {post : SX → Prop} {i j : Nat} (hi : i < 6) (hj : j < 6) (h : post (fd, nm, ty, ga, xs, ys, pr, upd (upd tr i (tr j)) j (tr i), fm, im)) : wpX_swapTrial post (fd, nm, ty, ga, xs, ys, pr, tr, fm, im) (nI i) (nI j) := by
  have ii : vp_in (nI i) 6 := vp_in_nI hi (by decide)
  have ij : vp_in (nI j) 6 := vp_in_nI hj (by decide)
  have ei : (nI i).toNatClampNeg = i := nI_clamp (by omega)
  have ej : (nI j).toNatClampNeg = j := nI_clamp (by omega)
  exact ⟨ii, nm_r (e' := tr i) (by rw [ei]) ⟨ij, ii, nm_r (e' := upd tr i (tr j)) (by rw [ei, ej]) ⟨ij, nm_r (e' := upd (upd tr i (tr j)) j (tr i)) (by rw [ej]) h⟩⟩⟩
theorem xt_75 {post : SX → Prop} {p : Nat} (hp : p < 5) (h : ∀ tr' : Nat → Int32, (∀ i, i < 6 → tr' i = tr (if i ≤ p then i else p + 6 - i)) → post (fd, nm, ty, ga, xs, ys, pr, tr', fm, im)) : ∃ n, wX_nextTrial_75 post n 5 (nI (p + 1)) fd nm ty ga xs ys pr tr fm im := by
  have six : ∀ {Q : Nat → Prop}, Q 0 → Q 1 → Q 2 → Q 3 → Q 4 → Q 5 → ∀ i, i < 6 → Q i := fun {Q} q0 q1 q2 q3 q4 q5 i hi => by
    rcases (show i = 0 ∨ i = 1 ∨ i = 2 ∨ i = 3 ∨ i = 4 ∨ i = 5 by omega) with e | e | e | e | e | e <;> rw [e] <;> assumption
  rcases (show p = 0 ∨ p = 1 ∨ p = 2 ∨ p = 3 ∨ p = 4 by omega) with e | e | e | e | e
  · subst e
    exact ⟨3, br_f (by decide) (xw_swap (i := 1) (j := 5) (by decide) (by decide) (nm_r (e' := nI 4) (by decide) (nm_r (e' := nI 2) (by decide) (br_f (by decide) (xw_swap (i := 2) (j := 4) (by decide) (by decide) (nm_r (e' := nI 3) (by decide) (nm_r (e' := nI 3) (by decide) (br_t (by decide) (h _ (six rfl rfl rfl rfl rfl rfl))))))))))⟩
  · subst e
    exact ⟨3, br_f (by decide) (xw_swap (i := 2) (j := 5) (by decide) (by decide) (nm_r (e' := nI 4) (by decide) (nm_r (e' := nI 3) (by decide) (br_f (by decide) (xw_swap (i := 3) (j := 4) (by decide) (by decide) (nm_r (e' := nI 3) (by decide) (nm_r (e' := nI 4) (by decide) (br_t (by decide) (h _ (six rfl rfl rfl rfl rfl rfl))))))))))⟩
  · subst e
    exact ⟨2, br_f (by decide) (xw_swap (i := 3) (j := 5) (by decide) (by decide) (nm_r (e' := nI 4) (by decide) (nm_r (e' := nI 4) (by decide) (br_t (by decide) (h _ (six rfl rfl rfl rfl rfl rfl))))))⟩
  · subst e
    exact ⟨2, br_f (by decide) (xw_swap (i := 4) (j := 5) (by decide) (by decide) (nm_r (e' := nI 4) (by decide) (nm_r (e' := nI 5) (by decide) (br_t (by decide) (h _ (six rfl rfl rfl rfl rfl rfl))))))⟩
  · subst e
    exact ⟨1, br_t (by decide) (h _ (six rfl rfl rfl rfl rfl rfl))⟩
theorem xt_36 {post : SX → Prop} {p s : Nat} {t : Nat → Nat} (ht : ∀ i, i < 6 → tr i = nI (t i)) (tl : ∀ i, i < 6 → t i < 6) (hps : p < s) (hs : s < 6) (h1 : t p < t s) (h2 : ∀ i, i < 6 → s < i → t i < t p) (h : wX_nextTrial_62 post (nI p) (nI s) fd nm ty ga xs ys pr tr fm im) : ∀ d m, s + d < 6 → d < m → wX_nextTrial_36 post (nI p) fd nm ty ga xs ys pr tr fm im m (nI (s + d)) := by
  have ep : tr (nI p).toNatClampNeg = nI (t p) := cm_at (by omega) (ht p (by omega))
  have lp := tl p (by omega)
  have ip : vp_in (nI p) 6 := vp_in_nI (by omega) (by decide)
  intro d
  induction d with
  | zero =>
    intro m hd hm
    obtain ⟨m, rfl⟩ : ∃ j, m = j + 1 := ⟨m - 1, by omega⟩
    have es : tr (nI (s + 0)).toNatClampNeg = nI (t s) := cm_at (by omega) (ht s hs)
    have ls := tl s hs
    refine br_f (nI_ge (by omega) (by omega)) ⟨vp_in_nI (by omega) (by decide), ip, ?_⟩
    rw [es, ep]
    exact br_t (nI_le (by omega) (by omega)) h
  | succ d ih =>
    intro m hd hm
    obtain ⟨m, rfl⟩ : ∃ j, m = j + 1 := ⟨m - 1, by omega⟩
    have es : tr (nI (s + (d + 1))).toNatClampNeg = nI (t (s + (d + 1))) := cm_at (by omega) (ht _ (by omega))
    have l2 := h2 (s + (d + 1)) (by omega) (by omega)
    refine br_f (nI_ge (by omega) (by omega)) ⟨vp_in_nI (by omega) (by decide), ip, ?_⟩
    rw [es, ep]
    exact br_f (nI_ge l2 (by omega)) (nm_r (pk_m1 (s + d)) (ih m (by omega) (by omega)))
theorem xt_2 {post : SX → Prop} {q : Nat} {t : Nat → Nat} (ht : ∀ i, i < 6 → tr i = nI (t i)) (tl : ∀ i, i < 6 → t i < 6) (h2 : ∀ i, i < 5 → q ≤ i → t (i + 1) < t i) (h : ∀ m, wX_nextTrial_2 post fd nm ty ga xs ys pr tr fm im (m + 1) (nI q + (-1))) : ∀ d m, q + d < 6 → d < m → wX_nextTrial_2 post fd nm ty ga xs ys pr tr fm im m (nI (q + d) + (-1)) := by
  intro d
  induction d with
  | zero =>
    intro m hd hm
    obtain ⟨m, rfl⟩ : ∃ j, m = j + 1 := ⟨m - 1, by omega⟩
    exact h m
  | succ d ih =>
    intro m hd hm
    obtain ⟨m, rfl⟩ : ∃ j, m = j + 1 := ⟨m - 1, by omega⟩
    have e1 : nI (q + (d + 1)) + (-1) = nI (q + d) := pk_m1 (q + d)
    have l0 := tl (q + d) (by omega)
    have l2 := h2 (q + d) (by omega) (by omega)
    rw [e1]
    refine br_f (nI_pos (by omega)) ?_
    rw [nI_1]
    have ea : tr (nI (q + d)).toNatClampNeg = nI (t (q + d)) := cm_at (by omega) (ht _ (by omega))
    have eb : tr (nI (q + d + 1)).toNatClampNeg = nI (t (q + d + 1)) := cm_at (by omega) (ht _ (by omega))
    refine ⟨vp_in_nI (by omega) (by decide), vp_in_nI (by omega) (by decide), ?_⟩
    rw [ea, eb]
    exact br_f (nI_ge l2 (by omega)) (nm_e (ih m (by omega) (by omega)))
theorem xw_next {post : SX → Prop} {c : Nat} (hc : c < 720) (ht : ∀ i, i < 6 → tr i = nI (nt_P c i)) (hp : ∀ tr' : Nat → Int32, (c + 1 < 720 → ∀ i, i < 6 → tr' i = nI (nt_P (c + 1) i)) → post (fd, nm, ty, ga, xs, ys, pr, tr', fm, im)) : wpX_nextTrial post (fd, nm, ty, ga, xs, ys, pr, tr, fm, im) := by
  have tl := nt_lt c hc
  rcases Nat.lt_or_ge c 719 with h9 | h9
  · obtain ⟨a1, a2⟩ := nt_pv1 c h9
    have a3 := nt_pv2 c h9
    obtain ⟨b1, b2, b3⟩ := nt_sc1 c h9
    have b4 := nt_sc2 c h9
    have nx := nt_next c h9
    generalize nt_pv c = p at a1 a2 a3 b1 b2 b3 b4 nx
    generalize nt_sc c p = s at b1 b2 b3 b4 nx
    have h62 : wX_nextTrial_62 post (nI p) (nI s) fd nm ty ga xs ys pr tr fm im := by
      unfold wX_nextTrial_62
      refine xw_swap (by omega) b2 (nm_r (nI_1 p) (xt_75 a1 (fun tr' htr => hp tr' (fun _ i hi => ?_))))
      rw [htr i hi, nx i hi]
      rcases Nat.lt_trichotomy i p with z | z | z
      · rw [if_pos (by omega), if_pos z, pk_un (by omega), pk_un (by omega)]
        exact ht i hi
      · rw [if_pos (by omega), if_neg (by omega), if_pos z, pk_un (by omega), z, pk_us]
        exact ht s b2
      · rw [if_neg (by omega), if_neg (by omega), if_neg (by omega)]
        by_cases w : p + 6 - i = s
        · rw [if_pos w, w, pk_us]
          exact ht p (by omega)
        · rw [if_neg w, pk_un w, pk_un (by omega)]
          exact ht _ (by omega)
    have h29 : wX_nextTrial_29 post (nI p) fd nm ty ga xs ys pr tr fm im := by
      refine br_t (nI_pos' (by omega)) ⟨7, ?_⟩
      have h := xt_36 ht tl b1 b2 b3 b4 h62 (5 - s) 7 (by omega) (by omega)
      rw [show s + (5 - s) = 5 by omega] at h
      exact h
    have h2 : ∀ m, wX_nextTrial_2 post fd nm ty ga xs ys pr tr fm im (m + 1) (nI (p + 1) + (-1)) := fun m => by
      rw [pk_m1]
      have l1 := tl (p + 1) (by omega)
      refine br_f (nI_pos (by omega)) ?_
      rw [nI_1]
      have ea : tr (nI p).toNatClampNeg = nI (nt_P c p) := cm_at (by omega) (ht _ (by omega))
      have eb : tr (nI (p + 1)).toNatClampNeg = nI (nt_P c (p + 1)) := cm_at (by omega) (ht _ (by omega))
      refine ⟨vp_in_nI (by omega) (by decide), vp_in_nI (by omega) (by decide), ?_⟩
      rw [ea, eb]
      exact br_t (nI_le (by omega) (by omega)) h29
    have h := xt_2 ht tl (fun i hi hq => a3 i hi (by omega)) h2 (4 - p) 7 (by omega) (by omega)
    rw [show p + 1 + (4 - p) = 4 + 1 by omega, pk_m1] at h
    exact ⟨7, h⟩
  · have e9 : c = 719 := by omega
    have h2 : ∀ m, wX_nextTrial_2 post fd nm ty ga xs ys pr tr fm im (m + 1) (nI 0 + (-1)) := fun m => br_t (by decide) (br_f (by decide) (hp tr (fun z => absurd z (by omega))))
    have h := xt_2 ht tl (fun i hi _ => by rw [e9]; exact nt_last i hi) h2 5 7 (by decide) (by decide)
    rw [show 0 + 5 = 4 + 1 from rfl, pk_m1] at h
    exact ⟨7, h⟩
/-! the survey -/
theorem xv_7 {post : SX → Prop} {a b L R : Nat} {F : Nat → Bool} (A : dv_A ty ga xs ys T G X Y) (ha : a < 2) (hb : b < 2) (hL : L < 128) (hR : R < 128) (ep : pr b = nI R)
    (hF : ∀ c, c < 720 → (F c = true ↔ (fi_N nm a b (nt_P c) ∧ fi_D T G X Y (fun d => L.testBit d) (fun d => R.testBit d) a b (nt_P c))))
    (hp : ∀ (fd : Int32) (tr fm im : Nat → Int32), fd = nI (pm_tot F 720) → (0 < pm_tot F 720 → ∃ c, pf_fs F c 720 ∧ ∀ i, i < 6 → fm i = nI (nt_P c i)) → (∀ i, i < 6 → im i = nI (pf_im F i 720)) → post (fd, nm, ty, ga, xs, ys, pr, tr, fm, im)) :
    ∀ f k m (fd : Int32) (tr fm im : Nat → Int32), k + f = 720 → f < m → fd = nI (pm_tot F k) → (0 < pm_tot F k → ∃ c, pf_fs F c k ∧ ∀ i, i < 6 → fm i = nI (nt_P c i)) → (∀ i, i < 6 → im i = nI (pf_im F i k)) → (k < 720 → ∀ i, i < 6 → tr i = nI (nt_P k i)) → wX_survey_7 post (nI a) (nI L) (nI b) m (nI k) fd nm ty ga xs ys pr tr fm im := by
  intro f
  induction f with
  | zero =>
    intro k m fd tr fm im hk hm h1 h2 h3 h4
    obtain ⟨m, rfl⟩ : ∃ j, m = j + 1 := ⟨m - 1, by omega⟩
    have e : k = 720 := by omega
    rw [e] at h1 h2 h3 ⊢
    exact br_t (by decide) (hp fd tr fm im h1 h2 h3)
  | succ f ih =>
    intro k m fd tr fm im hk hm h1 h2 h3 h4
    obtain ⟨m, rfl⟩ : ∃ j, m = j + 1 := ⟨m - 1, by omega⟩
    have k7 : k < 720 := by omega
    have ht := h4 k7
    have tl := nt_lt k k7
    have next : ∀ (fd : Int32) (fm im : Nat → Int32), fd = nI (pm_tot F (k + 1)) → (0 < pm_tot F (k + 1) → ∃ c, pf_fs F c (k + 1) ∧ ∀ i, i < 6 → fm i = nI (nt_P c i)) → (∀ i, i < 6 → im i = nI (pf_im F i (k + 1))) → wX_survey_38 post (wX_survey_7 post (nI a) (nI L) (nI b) m) (nI a) (nI L) (nI b) (nI k) fd nm ty ga xs ys pr tr fm im := by
      intro fd fm im g1 g2 g3
      unfold wX_survey_38
      exact xw_next k7 ht (fun tr' htr => nm_r (nI_1 k) (ih (k + 1) m fd tr' fm im (by omega) (by omega) g1 g2 g3 htr))
    have nof : ¬ (fi_N nm a b (nt_P k) ∧ fi_D T G X Y (fun d => L.testBit d) (fun d => R.testBit d) a b (nt_P k)) → wX_survey_38 post (wX_survey_7 post (nI a) (nI L) (nI b) m) (nI a) (nI L) (nI b) (nI k) fd nm ty ga xs ys pr tr fm im := fun n => by
      have e0 : ¬ F k = true := fun z => n ((hF k k7).mp z)
      have e1 : pm_tot F (k + 1) = pm_tot F k := by
        simp only [pm_tot]
        rw [if_neg e0]
        rfl
      have e2 : ∀ i, pf_im F i (k + 1) = pf_im F i k := fun i => by
        simp only [pf_im]
        rw [if_neg e0]
      refine next fd fm im (by rw [e1]; exact h1) (fun w => ?_) (fun i hi => by rw [e2]; exact h3 i hi)
      rw [e1] at w
      obtain ⟨c, z1, z2⟩ := h2 w
      exact ⟨c, ⟨by have := z1.1; omega, z1.2⟩, z2⟩
    refine br_f (nI_ge (b := 720) k7 (by decide)) (xw_names ht tl ha hb (fun hn => br_f (by decide) (xw_devs A ht tl ha hb hL hR ep (fun hd => br_f (by decide) ?_) (fun hd => br_t rfl (nof (fun z => hd z.2))))) (fun hn => br_t rfl (nof (fun z => hn z.1))))
    have e0 : F k = true := (hF k k7).mpr ⟨hn, hd⟩
    have e1 : pm_tot F (k + 1) = pm_tot F k + 1 := by
      simp only [pm_tot]
      rw [if_pos e0]
    have e2 : ∀ i, pf_im F i (k + 1) = pf_im F i k ||| 2 ^ nt_P k i := fun i => by
      simp only [pf_im]
      rw [if_pos e0]
    have l1 := pm_tot_le F k
    rw [h1]
    refine xw_record (by omega) ht tl (fun i hi => pf_im_lt hi k (by omega)) h3 (fun fm' im' z1 z2 z3 => next _ fm' im' (by rw [e1]) (fun _ => ?_) (fun i hi => by rw [e2]; exact z3 i hi))
    rcases Nat.eq_zero_or_pos (pm_tot F k) with w | w
    · exact ⟨k, ⟨by omega, e0, (pm_tot_0 k).mp w⟩, z1 w⟩
    · obtain ⟨c, y1, y2⟩ := h2 w
      rw [z2 (by omega)]
      exact ⟨c, ⟨by have := y1.1; omega, y1.2⟩, y2⟩
theorem xw_survey {post : SX → Prop} {a b L R : Nat} {F : Nat → Bool} (A : dv_A ty ga xs ys T G X Y) (ha : a < 2) (hb : b < 2) (hL : L < 128) (hR : R < 128) (ep : pr b = nI R)
    (hF : ∀ c, c < 720 → (F c = true ↔ (fi_N nm a b (nt_P c) ∧ fi_D T G X Y (fun d => L.testBit d) (fun d => R.testBit d) a b (nt_P c))))
    (hp : ∀ (fd : Int32) (tr fm im : Nat → Int32), fd = nI (pm_tot F 720) → (0 < pm_tot F 720 → ∃ c, pf_fs F c 720 ∧ ∀ i, i < 6 → fm i = nI (nt_P c i)) → (∀ i, i < 6 → im i = nI (pf_im F i 720)) → post (fd, nm, ty, ga, xs, ys, pr, tr, fm, im)) : wpX_survey post (fd, nm, ty, ga, xs, ys, pr, tr, fm, im) (nI a) (nI L) (nI b) := by
  unfold wpX_survey
  refine xw_start (fun fd tr im h1 h2 h3 => ⟨721, ?_⟩)
  exact xv_7 A ha hb hL hR ep hF hp 720 0 721 fd tr fm im rfl (by decide) h1 (fun w => absurd w (Nat.lt_irrefl 0)) h3 (fun _ i hi => by rw [nt_0 i hi]; exact h2 i hi)
end XSURV
end
section
/-! the reference: its loops over the assignments -/
section YLOOP
variable {th ty ga xs ys nn to : Nat → Int32} {T G X Y : Nat → Nat} {F : Nat → Bool} {a b : Nat}
/-- F says of each assignment whether it fits, as the reference sees it -/
def rl_Y (T G X Y : Nat → Nat) (th nn : Nat → Int32) (a b : Nat) (F : Nat → Bool) : Prop := ∀ c, c < 720 → (F c = true ↔ (fi_N nn a b (nt_P c) ∧ fi_D T G X Y (fun d => th_H th (7 * a + d)) (fun d => th_H th (7 * b + d)) a b (nt_P c)))
theorem yl_fit {post : Int32 → Prop} {c : Nat} (A : dv_A ty ga xs ys T G X Y) (hF : rl_Y T G X Y th nn a b F) (ha : a < 2) (hb : b < 2) (hc : c < 720) (ht : ∀ i, i < 6 → to i = nI (nt_P c i)) (h1 : F c = true → post 1) (h0 : F c = false → post 0) : wpY_fits post (th, ty, ga, xs, ys, nn, to) (nI a) (nI b) :=
  yw_fits A ht (nt_lt c hc) ha hb (fun z1 z2 => h1 ((hF c hc).mpr ⟨z1, z2⟩)) (fun n => h0 (th_nt (fun z => n ((hF c hc).mp z))))
theorem yl_first2 {post : Int32 → SY → Prop} (A : dv_A ty ga xs ys T G X Y) (hF : rl_Y T G X Y th nn 0 1 F)
    (h1 : ∀ (c : Nat) (to : Nat → Int32), pf_fs F c 720 → (∀ i, i < 6 → to i = nI (nt_P c i)) → post (nI c) (th, ty, ga, xs, ys, nn, to)) (h0 : pm_tot F 720 = 0 → ∀ to : Nat → Int32, post (-1) (th, ty, ga, xs, ys, nn, to)) :
    ∀ f k m (to : Nat → Int32), k + f = 720 → f < m → (∀ c, c < k → F c = false) → wY_first_2 post m (nI k) th ty ga xs ys nn to := by
  intro f
  induction f with
  | zero =>
    intro k m to hk hm hE
    obtain ⟨m, rfl⟩ : ∃ j, m = j + 1 := ⟨m - 1, by omega⟩
    have e : k = 720 := by omega
    rw [e] at hE ⊢
    exact br_t (by decide) (h0 ((pm_tot_0 720).mpr hE) to)
  | succ f ih =>
    intro k m to hk hm hE
    obtain ⟨m, rfl⟩ : ∃ j, m = j + 1 := ⟨m - 1, by omega⟩
    have k7 : k < 720 := by omega
    refine br_f (nI_ge (b := 720) k7 (by decide)) (yw_spell k7 (fun to ht => ?_))
    refine yl_fit (a := 0) (b := 1) A hF (by decide) (by decide) k7 ht (fun e => br_f (by decide) (h1 k to ⟨k7, e, hE⟩ ht)) (fun e => br_t rfl (nm_r (nI_1 k) (ih (k + 1) m to (by omega) (by omega) (fun c hc => ?_))))
    rcases Nat.lt_or_ge c k with z | z
    · exact hE c z
    · have e2 : c = k := by omega
      rw [e2]
      exact e
theorem yl_first {post : Int32 → SY → Prop} (A : dv_A ty ga xs ys T G X Y) (hF : rl_Y T G X Y th nn 0 1 F)
    (h1 : ∀ (c : Nat) (to : Nat → Int32), pf_fs F c 720 → (∀ i, i < 6 → to i = nI (nt_P c i)) → post (nI c) (th, ty, ga, xs, ys, nn, to)) (h0 : pm_tot F 720 = 0 → ∀ to : Nat → Int32, post (-1) (th, ty, ga, xs, ys, nn, to)) : wpY_first post (th, ty, ga, xs, ys, nn, to) :=
  ⟨721, yl_first2 A hF h1 h0 720 0 721 to rfl (by decide) (fun c h => absurd h (Nat.not_lt_zero c))⟩
theorem yl_match {post : Int32 → SY → Prop} (A : dv_A ty ga xs ys T G X Y) (hF : rl_Y T G X Y th nn 0 1 F)
    (h1 : 0 < pm_tot F 720 → ∀ to : Nat → Int32, post 1 (th, ty, ga, xs, ys, nn, to)) (h0 : pm_tot F 720 = 0 → ∀ to : Nat → Int32, post 0 (th, ty, ga, xs, ys, nn, to)) : wpY_match post (th, ty, ga, xs, ys, nn, to) := by
  unfold wpY_match
  exact yl_first A hF (fun c to hc _ => br_f (nI_pos (by have := hc.1; omega)) (h1 (pf_some hc) to)) (fun e to => br_t (by decide) (h0 e to))
theorem yl_assigned {post : Int32 → SY → Prop} {i : Nat} (A : dv_A ty ga xs ys T G X Y) (hF : rl_Y T G X Y th nn 0 1 F) (hi : i < 6)
    (h1 : ∀ (c : Nat) (to : Nat → Int32), pf_fs F c 720 → post (nI (nt_P c i)) (th, ty, ga, xs, ys, nn, to)) (h0 : pm_tot F 720 = 0 → ∀ to : Nat → Int32, post (-1) (th, ty, ga, xs, ys, nn, to)) : wpY_assigned post (th, ty, ga, xs, ys, nn, to) (nI i) := by
  unfold wpY_assigned
  refine ne_Y hi (br_f (by decide) (yl_first A hF (fun c to hc ht => br_f (nI_pos (by have := hc.1; omega)) ⟨vp_in_nI hi (by decide), ?_⟩) (fun e to => br_t (by decide) (h0 e to))))
  rw [cm_at (by omega) (ht i hi)]
  exact h1 c to hc
theorem yl_matches4 {post : Int32 → SY → Prop} (A : dv_A ty ga xs ys T G X Y) (hF : rl_Y T G X Y th nn 0 1 F) (h : ∀ to : Nat → Int32, post (nI (pm_tot F 720)) (th, ty, ga, xs, ys, nn, to)) :
    ∀ f k m (to : Nat → Int32), k + f = 720 → f < m → wY_matches_4 post m (nI (pm_tot F k)) (nI k) th ty ga xs ys nn to := by
  intro f
  induction f with
  | zero =>
    intro k m to hk hm
    obtain ⟨m, rfl⟩ : ∃ j, m = j + 1 := ⟨m - 1, by omega⟩
    have e : k = 720 := by omega
    rw [e]
    exact br_t (by decide) (h to)
  | succ f ih =>
    intro k m to hk hm
    obtain ⟨m, rfl⟩ : ∃ j, m = j + 1 := ⟨m - 1, by omega⟩
    have k7 : k < 720 := by omega
    refine br_f (nI_ge (b := 720) k7 (by decide)) (yw_spell k7 (fun to ht => ?_))
    refine yl_fit (a := 0) (b := 1) A hF (by decide) (by decide) k7 ht (fun e => br_f (by decide) (nm_r (nI_1 _) (nm_r (nI_1 k) ?_))) (fun e => br_t rfl (nm_r (nI_1 k) ?_))
    · have e1 : pm_tot F (k + 1) = pm_tot F k + 1 := by
        simp only [pm_tot]
        rw [if_pos e]
      rw [← e1]
      exact ih (k + 1) m to (by omega) (by omega)
    · have e1 : pm_tot F (k + 1) = pm_tot F k := by
        simp only [pm_tot]
        rw [if_neg (th_cl e)]
        rfl
      rw [← e1]
      exact ih (k + 1) m to (by omega) (by omega)
theorem yl_matches {post : Int32 → SY → Prop} (A : dv_A ty ga xs ys T G X Y) (hF : rl_Y T G X Y th nn 0 1 F) (h : ∀ to : Nat → Int32, post (nI (pm_tot F 720)) (th, ty, ga, xs, ys, nn, to)) : wpY_matches post (th, ty, ga, xs, ys, nn, to) :=
  ⟨721, yl_matches4 A hF h 720 0 721 to rfl (by decide)⟩
theorem yl_cand4 {post : Int32 → SY → Prop} {i : Nat} (A : dv_A ty ga xs ys T G X Y) (hF : rl_Y T G X Y th nn 0 1 F) (hi : i < 6) (h : ∀ to : Nat → Int32, post (nI (pf_im F i 720)) (th, ty, ga, xs, ys, nn, to)) :
    ∀ f k m (to : Nat → Int32), k + f = 720 → f < m → wY_candidates_4 post (nI i) m (nI (pf_im F i k)) (nI k) th ty ga xs ys nn to := by
  intro f
  induction f with
  | zero =>
    intro k m to hk hm
    obtain ⟨m, rfl⟩ : ∃ j, m = j + 1 := ⟨m - 1, by omega⟩
    have e : k = 720 := by omega
    rw [e]
    exact br_t (by decide) (h to)
  | succ f ih =>
    intro k m to hk hm
    obtain ⟨m, rfl⟩ : ∃ j, m = j + 1 := ⟨m - 1, by omega⟩
    have k7 : k < 720 := by omega
    refine br_f (nI_ge (b := 720) k7 (by decide)) (ne_Y hi (br_f (by decide) (yw_spell k7 (fun to ht => ?_))))
    refine yl_fit (a := 0) (b := 1) A hF (by decide) (by decide) k7 ht (fun e => br_f (by decide) ⟨vp_in_nI hi (by decide), nm_r (e' := nI (pf_im F i (k + 1))) ?_ (nm_r (nI_1 k) ?_)⟩) (fun e => br_t rfl (nm_r (nI_1 k) ?_))
    · have p6 := nt_lt k k7 i hi
      rw [cm_at (by omega) (ht i hi), (bs_set _ (pf_im_lt hi k (by omega)) _ (by omega)).1]
      simp only [pf_im]
      rw [if_pos e]
    · exact ih (k + 1) m to (by omega) (by omega)
    · have e1 : pf_im F i (k + 1) = pf_im F i k := by
        simp only [pf_im]
        rw [if_neg (th_cl e)]
      rw [← e1]
      exact ih (k + 1) m to (by omega) (by omega)
theorem yl_cand {post : Int32 → SY → Prop} {i : Nat} (A : dv_A ty ga xs ys T G X Y) (hF : rl_Y T G X Y th nn 0 1 F) (hi : i < 6) (h : ∀ to : Nat → Int32, post (nI (pf_im F i 720)) (th, ty, ga, xs, ys, nn, to)) : wpY_candidates post (th, ty, ga, xs, ys, nn, to) (nI i) :=
  ⟨721, yl_cand4 A hF hi h 720 0 721 to rfl (by decide)⟩
theorem yl_sym4 {post : Int32 → SY → Prop} (A : dv_A ty ga xs ys T G X Y) (ha : a < 2) (hF : rl_Y T G X Y th nn a a F) (h : ∀ to : Nat → Int32, post (nI (pm_tot F 720)) (th, ty, ga, xs, ys, nn, to)) :
    ∀ f k m (to : Nat → Int32), k + f = 720 → f < m → wY_symmetries_4 post (nI a) m (nI (pm_tot F k)) (nI k) th ty ga xs ys nn to := by
  intro f
  induction f with
  | zero =>
    intro k m to hk hm
    obtain ⟨m, rfl⟩ : ∃ j, m = j + 1 := ⟨m - 1, by omega⟩
    have e : k = 720 := by omega
    rw [e]
    refine br_t (by decide) ?_
    unfold wY_symmetries_47
    exact ci_Y ha (br_f (by decide) (h to))
  | succ f ih =>
    intro k m to hk hm
    obtain ⟨m, rfl⟩ : ∃ j, m = j + 1 := ⟨m - 1, by omega⟩
    have k7 : k < 720 := by omega
    refine br_f (nI_ge (b := 720) k7 (by decide)) (ci_Y ha (br_f (by decide) (yw_spell k7 (fun to ht => ?_))))
    refine yl_fit A hF ha ha k7 ht (fun e => br_f (by decide) (nm_r (nI_1 _) (nm_r (nI_1 k) ?_))) (fun e => br_t rfl (nm_r (nI_1 k) ?_))
    · have e1 : pm_tot F (k + 1) = pm_tot F k + 1 := by
        simp only [pm_tot]
        rw [if_pos e]
      rw [← e1]
      exact ih (k + 1) m to (by omega) (by omega)
    · have e1 : pm_tot F (k + 1) = pm_tot F k := by
        simp only [pm_tot]
        rw [if_neg (th_cl e)]
        rfl
      rw [← e1]
      exact ih (k + 1) m to (by omega) (by omega)
theorem yl_sym {post : Int32 → SY → Prop} (A : dv_A ty ga xs ys T G X Y) (ha : a < 2) (hF : rl_Y T G X Y th nn a a F) (h : ∀ to : Nat → Int32, post (nI (pm_tot F 720)) (th, ty, ga, xs, ys, nn, to)) : wpY_symmetries post (th, ty, ga, xs, ys, nn, to) (nI a) :=
  ⟨721, yl_sym4 A ha hF h 720 0 721 to rfl (by decide)⟩
theorem yl_exch1 {post : Int32 → SY → Prop} {i j : Nat} {x : Int32} (ha : a < 2) (hi : i < 6) (hj : j < 6) (h : post 1 (th, ty, ga, xs, ys, nn, to)) (m : Nat) : wY_exchangeable_6 post (nI a) (nI i) (nI j) (m + 1) 1 x th ty ga xs ys nn to :=
  br_c (fun _ => ⟨rfl, h⟩) (fun _ => ci_Y ha (br_f (by decide) (ne_Y hi (br_f (by decide) (ne_Y hj (br_f (by decide) (br_f (by decide) ⟨rfl, h⟩)))))))
theorem yl_exch6 {post : Int32 → SY → Prop} {i j : Nat} (A : dv_A ty ga xs ys T G X Y) (ha : a < 2) (hi : i < 6) (hj : j < 6) (hF : rl_Y T G X Y th nn a a F)
    (h1 : (∃ c, c < 720 ∧ F c = true ∧ nt_P c i = j) → ∀ to : Nat → Int32, post 1 (th, ty, ga, xs, ys, nn, to)) (h0 : ¬ (∃ c, c < 720 ∧ F c = true ∧ nt_P c i = j) → ∀ to : Nat → Int32, post 0 (th, ty, ga, xs, ys, nn, to)) :
    ∀ f k m (to : Nat → Int32), k + f = 720 → f + 1 < m → (∀ c, c < k → ¬ (F c = true ∧ nt_P c i = j)) → wY_exchangeable_6 post (nI a) (nI i) (nI j) m 0 (nI k) th ty ga xs ys nn to := by
  intro f
  induction f with
  | zero =>
    intro k m to hk hm hE
    obtain ⟨m, rfl⟩ : ∃ j, m = j + 1 := ⟨m - 1, by omega⟩
    have e : k = 720 := by omega
    rw [e] at hE ⊢
    exact br_t (by decide) ⟨rfl, h0 (fun ⟨c, z1, z2⟩ => hE c z1 z2) to⟩
  | succ f ih =>
    intro k m to hk hm hE
    obtain ⟨m, rfl⟩ : ∃ j, m = j + 2 := ⟨m - 2, by omega⟩
    have k7 : k < 720 := by omega
    have p6 := nt_lt k k7 i hi
    have go : ∀ to : Nat → Int32, ¬ (F k = true ∧ nt_P k i = j) → wY_exchangeable_6 post (nI a) (nI i) (nI j) (m + 1) 0 (nI (k + 1)) th ty ga xs ys nn to := fun to n => ih (k + 1) (m + 1) to (by omega) (by omega) (fun c hc => by
      rcases Nat.lt_or_ge c k with z | z
      · exact hE c z
      · have e2 : c = k := by omega
        rw [e2]
        exact n)
    refine br_f (nI_ge (b := 720) k7 (by decide)) (ci_Y ha (br_f (by decide) (ne_Y hi (br_f (by decide) (ne_Y hj (br_f (by decide) (br_t rfl (yw_spell k7 (fun to ht => ⟨vp_in_nI hi (by decide), ?_⟩)))))))))
    refine ek_if (cm_eq (cm_at (by omega) (ht i hi)) rfl (by omega) (by omega)) (fun e => ?_) (fun e => nm_r (nI_1 k) (go to (fun z => e z.2)))
    exact yl_fit A hF ha ha k7 ht (fun z => br_f (by decide) (nm_r (nI_1 k) (yl_exch1 ha hi hj (h1 ⟨k, k7, z, e⟩ to) m))) (fun z => br_t rfl (nm_r (nI_1 k) (go to (fun w => th_cl z w.1))))
theorem yl_exch {post : Int32 → SY → Prop} {i j : Nat} (A : dv_A ty ga xs ys T G X Y) (ha : a < 2) (hi : i < 6) (hj : j < 6) (hF : rl_Y T G X Y th nn a a F)
    (h1 : (∃ c, c < 720 ∧ F c = true ∧ nt_P c i = j) → ∀ to : Nat → Int32, post 1 (th, ty, ga, xs, ys, nn, to)) (h0 : ¬ (∃ c, c < 720 ∧ F c = true ∧ nt_P c i = j) → ∀ to : Nat → Int32, post 0 (th, ty, ga, xs, ys, nn, to)) : wpY_exchangeable post (th, ty, ga, xs, ys, nn, to) (nI a) (nI i) (nI j) :=
  ⟨722, yl_exch6 A ha hi hj hF h1 h0 720 0 722 to rfl (by decide) (fun c h => absurd h (Nat.not_lt_zero c))⟩
/-- the least of k, k + 1, .. of which S says so; -1 if none of the f does -/
def sl_L (S : Nat → Bool) : Nat → Nat → Int32
  | 0, _ => -1
  | f + 1, k => if S k = true then nI k else sl_L S f (k + 1)
/-- the devices that are there, taken one away -/
def th_wo (th : Nat → Int32) (d : Nat) : Nat → Int32 := upd th d (vp_nar .boolean 0)
theorem sp_v0 : vp_nar .boolean 0 = 0 := by decide
theorem sp_v1 : vp_nar .boolean 1 = 1 := by decide
theorem sp_H1 {th : Nat → Int32} {d j : Nat} : th_H (upd th d 1) j = (th_H th j || j == d) := by
  unfold th_H
  by_cases c : j = d
  · rw [c, pk_us]
    simp
  · rw [pk_un c]
    have : (j == d) = false := by rw [beq_eq_false_iff_ne]; exact c
    rw [this]
    simp
theorem sp_H0 {th : Nat → Int32} {d j : Nat} : th_H (upd th d 0) j = (th_H th j && !(j == d)) := by
  unfold th_H
  by_cases c : j = d
  · rw [c, pk_us]
    simp
  · rw [pk_un c]
    have : (j == d) = false := by rw [beq_eq_false_iff_ne]; exact c
    rw [this]
    simp
theorem yl_surp5 {post : Int32 → SY → Prop} {FF : Nat → Nat → Bool} {H : Nat → Bool} (A : dv_A ty ga xs ys T G X Y)
    (hF : ∀ d, d < 7 → ∀ th : Nat → Int32, (∀ j, j < 14 → th_H th j = (H j && !(j == d))) → rl_Y T G X Y th nn 0 1 (FF d))
    (h : ∀ (th to : Nat → Int32), (∀ j, j < 14 → th_H th j = H j) → post (sl_L (fun d => H d && decide (0 < pm_tot (FF d) 720)) 7 0) (th, ty, ga, xs, ys, nn, to)) :
    ∀ k m (th to : Nat → Int32), k ≤ 7 → k < m → (∀ j, j < 14 → th_H th j = H j) → wY_surplus_5 post m (sl_L (fun d => H d && decide (0 < pm_tot (FF d) 720)) (7 - k) k) (nI k + (-1)) th ty ga xs ys nn to := by
  intro k
  induction k with
  | zero =>
    intro m th to hk hm hH
    obtain ⟨m, rfl⟩ : ∃ j, m = j + 1 := ⟨m - 1, by omega⟩
    exact br_t (by decide) (h th to hH)
  | succ k ih =>
    intro m th to hk hm hH
    obtain ⟨m, rfl⟩ : ∃ j, m = j + 1 := ⟨m - 1, by omega⟩
    have k14 : k < 14 := by omega
    have ec : (nI k).toNatClampNeg = k := nI_clamp (by omega)
    have sl : sl_L (fun d => H d && decide (0 < pm_tot (FF d) 720)) (7 - k) k = (if (H k && decide (0 < pm_tot (FF k) 720)) = true then nI k else sl_L (fun d => H d && decide (0 < pm_tot (FF d) 720)) (7 - (k + 1)) (k + 1)) := by
      rw [show 7 - k = (7 - (k + 1)) + 1 by omega]
      rfl
    rw [pk_m1]
    refine br_f (nI_pos (by omega)) ⟨vp_in_nI k14 (by decide), ek_if (th_f (by omega)) (fun e => nm_e ?_) (fun e => ⟨vp_in_nI k14 (by decide), nm_r (e' := upd th k 0) (by rw [ec, sp_v0]) ?_⟩)⟩
    · have e1 : H k = false := by rw [← hH k k14]; exact e
      rw [e1, Bool.false_and, if_neg (by decide)] at sl
      rw [← sl]
      exact ih m th to (by omega) (by omega) hH
    · have e1 : H k = true := by rw [← hH k k14]; exact th_nf e
      have back : ∀ (z : Int32) (to : Nat → Int32), z = sl_L (fun d => H d && decide (0 < pm_tot (FF d) 720)) (7 - k) k → wY_surplus_37 post (wY_surplus_5 post m) (nI k) z (upd th k 0) ty ga xs ys nn to := fun z to hz => by
        refine ⟨vp_in_nI k14 (by decide), nm_r (e' := upd (upd th k 0) k 1) (by rw [ec, sp_v1]) (nm_e ?_)⟩
        rw [hz]
        refine ih m _ to (by omega) (by omega) (fun j hj => ?_)
        rw [sp_H1, sp_H0, hH j hj]
        by_cases c : j = k
        · rw [c, e1]
          simp
        · have : (j == k) = false := by rw [beq_eq_false_iff_ne]; exact c
          rw [this]
          simp
      refine yl_first A (hF k (by omega) (upd th k 0) (fun j hj => by rw [sp_H0, hH j hj])) (fun c to hc _ => br_f (nI_pos (by have := hc.1; omega)) (back _ to ?_)) (fun e2 to => br_t (by decide) (back _ to ?_))
      · rw [sl, e1, decide_eq_true (pf_some hc), if_pos (by decide)]
      · rw [sl, e1, decide_eq_false (by omega), if_neg (by decide)]
theorem yl_surp {post : Int32 → SY → Prop} {FF : Nat → Nat → Bool} {H : Nat → Bool} (A : dv_A ty ga xs ys T G X Y)
    (hF : ∀ d, d < 7 → ∀ th : Nat → Int32, (∀ j, j < 14 → th_H th j = (H j && !(j == d))) → rl_Y T G X Y th nn 0 1 (FF d))
    (hH : ∀ j, j < 14 → th_H th j = H j)
    (h : ∀ (th to : Nat → Int32), (∀ j, j < 14 → th_H th j = H j) → post (sl_L (fun d => H d && decide (0 < pm_tot (FF d) 720)) 7 0) (th, ty, ga, xs, ys, nn, to)) : wpY_surplus post (th, ty, ga, xs, ys, nn, to) := by
  have h7 := yl_surp5 A hF h 7 8 th to (by decide) (by decide) hH
  rw [show nI 7 + (-1) = nI 6 from pk_m1 6] at h7
  exact ⟨8, h7⟩
end YLOOP
end
section
/-! what fits, for both sides -/
theorem fi_D_c {T G X Y t : Nat → Nat} {p p' q q' : Nat → Bool} {a b : Nat} (hp : ∀ d, d < 7 → p d = p' d) (hq : ∀ d, d < 7 → q d = q' d) : fi_D T G X Y p q a b t ↔ fi_D T G X Y p' q' a b t := by
  have e1 : ∀ z, pm_cnt p (fun d => dv_K T G X Y t (7 * a + d)) z 7 = pm_cnt p' (fun d => dv_K T G X Y t (7 * a + d)) z 7 := fun z => pm_cnt_congr 7 (fun d hd => ⟨hp d hd, rfl⟩)
  have e2 : ∀ z, pm_cnt q (fun d => dv_K T G X Y (fun i => i) (7 * b + d)) z 7 = pm_cnt q' (fun d => dv_K T G X Y (fun i => i) (7 * b + d)) z 7 := fun z => pm_cnt_congr 7 (fun d hd => ⟨hq d hd, rfl⟩)
  exact ⟨fun h z => by rw [← e1, ← e2]; exact h z, fun h z => by rw [e1, e2]; exact h z⟩
theorem ad_1 {x y : Int32} : x + 1 = y + 1 ↔ x = y := by
  constructor
  · intro h
    have h3 : x + 1 + (-1) = y + 1 + (-1) := by rw [h]
    rw [Int32.add_assoc, Int32.add_assoc, show (1 : Int32) + (-1) = 0 from rfl, Int32.add_zero, Int32.add_zero] at h3
    exact h3
  · intro h
    rw [h]
theorem fi_N_c {nm nn : Nat → Int32} {a b : Nat} {t : Nat → Nat} (hN : ∀ j, j < 12 → nn j = nm j + 1) (ha : a < 2) (hb : b < 2) (tl : ∀ i, i < 6 → t i < 6) : fi_N nn a b t ↔ fi_N nm a b t := by
  constructor
  · intro h i hi
    have h1 := h i hi
    have h2 := tl i hi
    rw [hN _ (by omega), hN _ (by omega)] at h1
    exact ad_1.mp h1
  · intro h i hi
    have h2 := tl i hi
    rw [hN _ (by omega), hN _ (by omega)]
    exact ad_1.mpr (h i hi)
noncomputable def rl_F (T G X Y : Nat → Nat) (H : Nat → Bool) (nn : Nat → Int32) (a b : Nat) : Nat → Bool := fun c => @decide (fi_N nn a b (nt_P c) ∧ fi_D T G X Y (fun d => H (7 * a + d)) (fun d => H (7 * b + d)) a b (nt_P c)) (Classical.propDecidable _)
theorem rl_F_iff {T G X Y : Nat → Nat} {H : Nat → Bool} {nn : Nat → Int32} {a b c : Nat} : rl_F T G X Y H nn a b c = true ↔ (fi_N nn a b (nt_P c) ∧ fi_D T G X Y (fun d => H (7 * a + d)) (fun d => H (7 * b + d)) a b (nt_P c)) := by
  unfold rl_F
  exact @decide_eq_true_iff _ (Classical.propDecidable _)
theorem rl_FY {T G X Y : Nat → Nat} {H : Nat → Bool} {th nn : Nat → Int32} {a b : Nat} (ha : a < 2) (hb : b < 2) (hH : ∀ j, j < 14 → th_H th j = H j) : rl_Y T G X Y th nn a b (rl_F T G X Y H nn a b) := by
  intro c hc
  rw [rl_F_iff, fi_D_c (p := fun d => H (7 * a + d)) (p' := fun d => th_H th (7 * a + d)) (q := fun d => H (7 * b + d)) (q' := fun d => th_H th (7 * b + d)) (fun d hd => (hH _ (by omega)).symm) (fun d hd => (hH _ (by omega)).symm)]
/-- F says of each assignment whether it fits, as the class sees it -/
def rl_X (T G X Y : Nat → Nat) (nm : Nat → Int32) (L R a b : Nat) (F : Nat → Bool) : Prop := ∀ c, c < 720 → (F c = true ↔ (fi_N nm a b (nt_P c) ∧ fi_D T G X Y (fun d => L.testBit d) (fun d => R.testBit d) a b (nt_P c)))
theorem rl_FX {T G X Y : Nat → Nat} {H : Nat → Bool} {nm nn : Nat → Int32} {a b L R : Nat} (ha : a < 2) (hb : b < 2) (hN : ∀ j, j < 12 → nn j = nm j + 1) (hp : ∀ d, d < 7 → L.testBit d = H (7 * a + d)) (hq : ∀ d, d < 7 → R.testBit d = H (7 * b + d)) : rl_X T G X Y nm L R a b (rl_F T G X Y H nn a b) := by
  intro c hc
  rw [rl_F_iff, fi_N_c hN ha hb (nt_lt c hc), fi_D_c (p := fun d => H (7 * a + d)) (p' := fun d => L.testBit d) (q := fun d => H (7 * b + d)) (q' := fun d => R.testBit d) (fun d hd => (hp d hd).symm) (fun d hd => (hq d hd).symm)]
/-! the class: its questions -/
section XOUT
variable {fd : Int32} {nm ty ga xs ys pr tr fm im : Nat → Int32} {T G X Y : Nat → Nat} {F : Nat → Bool} {L R : Nat}
theorem xl_match {post : Int32 → SX → Prop} (A : dv_A ty ga xs ys T G X Y) (hL : L < 128) (hR : R < 128) (e0 : pr 0 = nI L) (e1 : pr 1 = nI R) (hF : rl_X T G X Y nm L R 0 1 F)
    (h1 : 0 < pm_tot F 720 → ∀ (fd : Int32) (tr fm im : Nat → Int32), post 1 (fd, nm, ty, ga, xs, ys, pr, tr, fm, im)) (h0 : pm_tot F 720 = 0 → ∀ (fd : Int32) (tr fm im : Nat → Int32), post 0 (fd, nm, ty, ga, xs, ys, pr, tr, fm, im)) : wpX_match post (fd, nm, ty, ga, xs, ys, pr, tr, fm, im) := by
  unfold wpX_match
  dsimp only
  rw [e0]
  refine xw_survey (a := 0) (b := 1) A (by decide) (by decide) hL hR e1 hF (fun fd tr fm im z1 _ _ => ?_)
  have l := pm_tot_le F 720
  exact pk_le (pm_tot F 720) 0 (fun h => h0 (by omega) fd tr fm im) (fun h => h1 h fd tr fm im) z1 rfl (by omega) (by omega)
theorem xl_assigned {post : Int32 → SX → Prop} {i : Nat} (hi : i < 6) (A : dv_A ty ga xs ys T G X Y) (hL : L < 128) (hR : R < 128) (e0 : pr 0 = nI L) (e1 : pr 1 = nI R) (hF : rl_X T G X Y nm L R 0 1 F)
    (h1 : ∀ c, pf_fs F c 720 → ∀ (fd : Int32) (tr fm im : Nat → Int32), post (nI (nt_P c i)) (fd, nm, ty, ga, xs, ys, pr, tr, fm, im)) (h0 : pm_tot F 720 = 0 → ∀ (fd : Int32) (tr fm im : Nat → Int32), post (-1) (fd, nm, ty, ga, xs, ys, pr, tr, fm, im)) : wpX_assigned post (fd, nm, ty, ga, xs, ys, pr, tr, fm, im) (nI i) := by
  unfold wpX_assigned
  dsimp only
  rw [e0]
  refine ne_X hi (br_f (by decide) (xw_survey (a := 0) (b := 1) A (by decide) (by decide) hL hR e1 hF (fun fd tr fm im z1 z2 _ => ?_)))
  have l := pm_tot_le F 720
  refine pk_le (pm_tot F 720) 0 (fun h => h0 (by omega) fd tr fm im) (fun h => ⟨vp_in_nI hi (by decide), ?_⟩) z1 rfl (by omega) (by omega)
  obtain ⟨c, w1, w2⟩ := z2 h
  dsimp only
  rw [cm_at (by omega) (w2 i hi)]
  exact h1 c w1 fd tr fm im
theorem xl_matches {post : Int32 → SX → Prop} (A : dv_A ty ga xs ys T G X Y) (hL : L < 128) (hR : R < 128) (e0 : pr 0 = nI L) (e1 : pr 1 = nI R) (hF : rl_X T G X Y nm L R 0 1 F)
    (h : ∀ (fd : Int32) (tr fm im : Nat → Int32), post (nI (pm_tot F 720)) (fd, nm, ty, ga, xs, ys, pr, tr, fm, im)) : wpX_matches post (fd, nm, ty, ga, xs, ys, pr, tr, fm, im) := by
  unfold wpX_matches
  dsimp only
  rw [e0]
  refine xw_survey (a := 0) (b := 1) A (by decide) (by decide) hL hR e1 hF (fun fd tr fm im z1 _ _ => ?_)
  subst z1
  exact h _ tr fm im
theorem xl_cand {post : Int32 → SX → Prop} {i : Nat} (hi : i < 6) (A : dv_A ty ga xs ys T G X Y) (hL : L < 128) (hR : R < 128) (e0 : pr 0 = nI L) (e1 : pr 1 = nI R) (hF : rl_X T G X Y nm L R 0 1 F)
    (h : ∀ (fd : Int32) (tr fm im : Nat → Int32), post (nI (pf_im F i 720)) (fd, nm, ty, ga, xs, ys, pr, tr, fm, im)) : wpX_candidates post (fd, nm, ty, ga, xs, ys, pr, tr, fm, im) (nI i) := by
  unfold wpX_candidates
  dsimp only
  rw [e0]
  refine ne_X hi (br_f (by decide) (xw_survey (a := 0) (b := 1) A (by decide) (by decide) hL hR e1 hF (fun fd tr fm im _ _ z3 => ⟨vp_in_nI hi (by decide), ?_⟩)))
  dsimp only
  rw [cm_at (by omega) (z3 i hi)]
  exact h fd tr fm im
theorem xl_sym {post : Int32 → SX → Prop} {a : Nat} (ha : a < 2) (A : dv_A ty ga xs ys T G X Y) (hL : L < 128) (e0 : pr a = nI L) (hF : rl_X T G X Y nm L L a a F)
    (h : ∀ (fd : Int32) (tr fm im : Nat → Int32), post (nI (pm_tot F 720)) (fd, nm, ty, ga, xs, ys, pr, tr, fm, im)) : wpX_symmetries post (fd, nm, ty, ga, xs, ys, pr, tr, fm, im) (nI a) := by
  unfold wpX_symmetries
  dsimp only
  rw [cm_at (by omega) e0]
  refine ci_X ha (br_f (by decide) ⟨vp_in_nI ha (by decide), xw_survey A ha ha hL hL e0 hF (fun fd tr fm im z1 _ _ => ?_)⟩)
  subst z1
  exact h _ tr fm im
theorem xl_exch {post : Int32 → SX → Prop} {a i j : Nat} (ha : a < 2) (hi : i < 6) (hj : j < 6) (A : dv_A ty ga xs ys T G X Y) (hL : L < 128) (e0 : pr a = nI L) (hF : rl_X T G X Y nm L L a a F)
    (h1 : (∃ c, c < 720 ∧ F c = true ∧ nt_P c i = j) → ∀ (fd : Int32) (tr fm im : Nat → Int32), post 1 (fd, nm, ty, ga, xs, ys, pr, tr, fm, im))
    (h0 : ¬ (∃ c, c < 720 ∧ F c = true ∧ nt_P c i = j) → ∀ (fd : Int32) (tr fm im : Nat → Int32), post 0 (fd, nm, ty, ga, xs, ys, pr, tr, fm, im)) : wpX_exchangeable post (fd, nm, ty, ga, xs, ys, pr, tr, fm, im) (nI a) (nI i) (nI j) := by
  unfold wpX_exchangeable
  dsimp only
  rw [cm_at (by omega) e0]
  refine ci_X ha (br_f (by decide) (ne_X hi (br_f (by decide) (ne_X hj (br_f (by decide) ⟨vp_in_nI ha (by decide), xw_survey A ha ha hL hL e0 hF (fun fd tr fm im _ _ z3 => ⟨vp_in_nI hi (by decide), ?_⟩)⟩)))))
  have im_T := pf_im_T (F := F) (j := j) hi (by omega) 720 (Nat.le_refl 720)
  dsimp only
  rw [cm_at (by omega) (z3 i hi)]
  exact hb_X (pf_im_lt hi 720 (Nat.le_refl 720)) (by omega) (fun z => ⟨rfl, h1 (im_T.mp z) fd tr fm im⟩) (fun z => ⟨rfl, h0 (fun w => th_cl z (im_T.mpr w)) fd tr fm im⟩)
theorem xl_surp2 {post : Int32 → SX → Prop} {FF : Nat → Nat → Bool} {H : Nat → Bool} (A : dv_A ty ga xs ys T G X Y) (hL : L < 128) (hR : R < 128) (e0 : pr 0 = nI L) (e1 : pr 1 = nI R)
    (hH : ∀ d, d < 7 → L.testBit d = H d)
    (hF : ∀ d, d < 7 → rl_X T G X Y nm (bs_clr L d) R 0 1 (FF d))
    (h : ∀ (fd : Int32) (tr fm im : Nat → Int32), post (sl_L (fun d => H d && decide (0 < pm_tot (FF d) 720)) 7 0) (fd, nm, ty, ga, xs, ys, pr, tr, fm, im)) :
    ∀ f k m (fd : Int32) (tr fm im : Nat → Int32), k + f = 7 → f < m → sl_L (fun d => H d && decide (0 < pm_tot (FF d) 720)) 7 0 = sl_L (fun d => H d && decide (0 < pm_tot (FF d) 720)) f k → wX_surplus_2 post m (nI k) fd nm ty ga xs ys pr tr fm im := by
  intro f
  induction f with
  | zero =>
    intro k m fd tr fm im hk hm hs
    obtain ⟨m, rfl⟩ : ∃ j, m = j + 1 := ⟨m - 1, by omega⟩
    have e : k = 7 := by omega
    have h2 := h fd tr fm im
    rw [hs] at h2
    rw [e]
    exact br_t (by decide) h2
  | succ f ih =>
    intro k m fd tr fm im hk hm hs
    obtain ⟨m, rfl⟩ : ∃ j, m = j + 1 := ⟨m - 1, by omega⟩
    have k7 : k < 7 := by omega
    have sl : sl_L (fun d => H d && decide (0 < pm_tot (FF d) 720)) (f + 1) k = (if (H k && decide (0 < pm_tot (FF k) 720)) = true then nI k else sl_L (fun d => H d && decide (0 < pm_tot (FF d) 720)) f (k + 1)) := rfl
    have l := pm_tot_le (FF k) 720
    have c := bs_clrI L hL k k7
    refine br_f (nI_ge (b := 7) k7 (by decide)) ?_
    rw [e0]
    refine hb_X hL k7 (fun hbit => br_f (by decide) ?_) (fun hbit => br_t rfl (nm_r (nI_1 k) (ih (k + 1) m fd tr fm im (by omega) (by omega) ?_)))
    · rw [hH k k7] at hbit
      rw [c.1]
      refine xw_survey (a := 0) (b := 1) A (by decide) (by decide) c.2 hR e1 (hF k k7) (fun fd tr fm im z1 _ _ => ?_)
      refine pk_le (pm_tot (FF k) 720) 0 (fun w => nm_r (nI_1 k) (ih (k + 1) m fd tr fm im (by omega) (by omega) ?_)) (fun w => ?_) z1 rfl (by omega) (by omega)
      · rw [hs, sl, hbit, decide_eq_false (by omega), if_neg (by decide)]
      · have h2 := h fd tr fm im
        rw [hs, sl, hbit, decide_eq_true w, if_pos (by decide)] at h2
        exact h2
    · rw [hH k k7] at hbit
      rw [hs, sl, hbit, Bool.false_and, if_neg (by decide)]
theorem xl_surp {post : Int32 → SX → Prop} {FF : Nat → Nat → Bool} {H : Nat → Bool} (A : dv_A ty ga xs ys T G X Y) (hL : L < 128) (hR : R < 128) (e0 : pr 0 = nI L) (e1 : pr 1 = nI R)
    (hH : ∀ d, d < 7 → L.testBit d = H d)
    (hF : ∀ d, d < 7 → rl_X T G X Y nm (bs_clr L d) R 0 1 (FF d))
    (h : ∀ (fd : Int32) (tr fm im : Nat → Int32), post (sl_L (fun d => H d && decide (0 < pm_tot (FF d) 720)) 7 0) (fd, nm, ty, ga, xs, ys, pr, tr, fm, im)) : wpX_surplus post (fd, nm, ty, ga, xs, ys, pr, tr, fm, im) :=
  ⟨8, xl_surp2 A hL hR e0 e1 hH hF h 7 0 8 fd tr fm im rfl (by decide) rfl⟩
/-! the class: free numbers, degree -/
theorem xl_free2 {post : Int32 → Prop} {c M : Nat} (hc : c < 2) (hM : M < 128) (e : pr c = nI M)
    (h1 : ∀ d, d < 7 → (∀ j, j < d → M.testBit j = true) → M.testBit d = false → post (nI d)) (h0 : (∀ j, j < 7 → M.testBit j = true) → post (-1)) :
    ∀ f d m, d + f = 7 → f < m → (∀ j, j < d → M.testBit j = true) → wX_leastFreeDevice_2 post (nI c) fd nm ty ga xs ys pr tr fm im m (nI d) := by
  intro f
  induction f with
  | zero =>
    intro d m hd hm hE
    obtain ⟨m, rfl⟩ : ∃ j, m = j + 1 := ⟨m - 1, by omega⟩
    have e7 : d = 7 := by omega
    rw [e7] at hE ⊢
    exact br_t (by decide) (h0 hE)
  | succ f ih =>
    intro d m hd hm hE
    obtain ⟨m, rfl⟩ : ∃ j, m = j + 1 := ⟨m - 1, by omega⟩
    have d7 : d < 7 := by omega
    refine br_f (nI_ge (b := 7) d7 (by decide)) ⟨vp_in_nI hc (by decide), ?_⟩
    rw [cm_at (by omega) e]
    refine hb_X hM d7 (fun hbit => br_f (by decide) (nm_r (nI_1 d) (ih (d + 1) m (by omega) (by omega) (fun j hj => ?_)))) (fun hbit => br_t rfl (h1 d d7 hE hbit))
    rcases Nat.lt_or_ge j d with z | z
    · exact hE j z
    · have e2 : j = d := by omega
      rw [e2]
      exact hbit
theorem xl_free {post : Int32 → Prop} {c M : Nat} (hc : c < 2) (hM : M < 128) (e : pr c = nI M)
    (h1 : ∀ d, d < 7 → (∀ j, j < d → M.testBit j = true) → M.testBit d = false → post (nI d)) (h0 : (∀ j, j < 7 → M.testBit j = true) → post (-1)) : wpX_leastFreeDevice post (fd, nm, ty, ga, xs, ys, pr, tr, fm, im) (nI c) :=
  ⟨8, xl_free2 hc hM e h1 h0 7 0 8 rfl (by decide) (fun j h => absurd h (Nat.not_lt_zero j))⟩
def dg_w (T G X Y : Nat → Nat) (l i : Nat) : Nat := (if T l ≠ 2 ∧ G l = i then 1 else 0) + (if X l = i then 1 else 0) + (if Y l = i then 1 else 0)
def dg_s (T G X Y : Nat → Nat) (H : Nat → Bool) (c i : Nat) : Nat → Nat
  | 0 => 0
  | n + 1 => dg_s T G X Y H c i n + (if H (7 * c + n) = true then dg_w T G X Y (7 * c + n) i else 0)
theorem xl_38 {post : Int32 → Prop} {l i v : Nat} (A : dv_A ty ga xs ys T G X Y) (hl : l < 14) (hi : i < 6) (h : post (nI (v + (if Y l = i then 1 else 0)))) : wX_touches_38 post (nI l) (nI i) (nI v) fd nm ty ga xs ys pr tr fm im := by
  refine ⟨vp_in_nI hl (by decide), ek_if (cm_eq (dv_Y A (by omega)) rfl (dv_bY A l) (by omega)) (fun e => ?_) (fun e => ?_)⟩
  · rw [if_pos e] at h
    exact nm_r (nI_1 v) h
  · rw [if_neg e] at h
    exact h
theorem xl_25 {post : Int32 → Prop} {l i v : Nat} (A : dv_A ty ga xs ys T G X Y) (hl : l < 14) (hi : i < 6) (h : post (nI (v + (if X l = i then 1 else 0) + (if Y l = i then 1 else 0)))) : wX_touches_25 post (nI l) (nI i) (nI v) fd nm ty ga xs ys pr tr fm im := by
  refine ⟨vp_in_nI hl (by decide), ek_if (cm_eq (dv_X A (by omega)) rfl (dv_bX A l) (by omega)) (fun e => ?_) (fun e => ?_)⟩
  · rw [if_pos e] at h
    exact nm_r (nI_1 v) (xl_38 A hl hi h)
  · rw [if_neg e] at h
    exact xl_38 A hl hi h
theorem xl_touches {post : Int32 → Prop} {l i : Nat} (A : dv_A ty ga xs ys T G X Y) (hl : l < 14) (hi : i < 6) (h : post (nI (dg_w T G X Y l i))) : wpX_touches post (fd, nm, ty, ga, xs, ys, pr, tr, fm, im) (nI l) (nI i) := by
  unfold dg_w at h
  refine ⟨vp_in_nI hl (by decide), ek_if (cm_eq (q := 2) (dv_T A (by omega)) rfl (dv_bT A l) (by decide)) (fun e => ?_) (fun e => ⟨vp_in_nI hl (by decide), ek_if (cm_eq (dv_G A (by omega)) rfl (dv_bG A l) (by omega)) (fun g => ?_) (fun g => ?_)⟩)⟩
  · rw [if_neg (fun z => z.1 e)] at h
    exact xl_25 (v := 0) A hl hi h
  · rw [if_pos ⟨e, g⟩] at h
    exact nm_r (e' := nI 1) (by decide) (xl_25 A hl hi h)
  · rw [if_neg (fun z => g z.2)] at h
    exact xl_25 (v := 0) A hl hi h
theorem xl_deg21 {post : Int32 → Prop} {c i M : Nat} {H : Nat → Bool} (A : dv_A ty ga xs ys T G X Y) (hc : c < 2) (hi : i < 6) (hM : M < 128) (e : pr c = nI M) (hH : ∀ d, d < 7 → M.testBit d = H (7 * c + d))
    (h : post (nI (dg_s T G X Y H c i 7))) : ∀ f d m, d + f = 7 → f < m → wX_degree_21 post (nI c) (nI i) fd nm ty ga xs ys pr tr fm im m (nI (dg_s T G X Y H c i d)) (nI d) := by
  intro f
  induction f with
  | zero =>
    intro d m hd hm
    obtain ⟨m, rfl⟩ : ∃ j, m = j + 1 := ⟨m - 1, by omega⟩
    have e7 : d = 7 := by omega
    rw [e7]
    exact br_t (by decide) h
  | succ f ih =>
    intro d m hd hm
    obtain ⟨m, rfl⟩ : ∃ j, m = j + 1 := ⟨m - 1, by omega⟩
    have d7 : d < 7 := by omega
    refine br_f (nI_ge (b := 7) d7 (by decide)) ⟨vp_in_nI hc (by decide), ?_⟩
    rw [cm_at (by omega) e, ix_7]
    refine hb_X hM d7 (fun hbit => br_f (by decide) (xl_touches A (by omega) hi (nm_r (nI_add _ _) (nm_r (nI_1 d) ?_)))) (fun hbit => br_t rfl (nm_r (nI_1 d) ?_))
    · rw [hH d d7] at hbit
      have e1 : dg_s T G X Y H c i (d + 1) = dg_s T G X Y H c i d + dg_w T G X Y (7 * c + d) i := by
        simp only [dg_s]
        rw [if_pos hbit]
      rw [← e1]
      exact ih (d + 1) m (by omega) (by omega)
    · rw [hH d d7] at hbit
      have e1 : dg_s T G X Y H c i (d + 1) = dg_s T G X Y H c i d := by
        simp only [dg_s]
        rw [if_neg (th_cl hbit)]
        rfl
      rw [← e1]
      exact ih (d + 1) m (by omega) (by omega)
theorem xl_deg {post : Int32 → Prop} {c i M : Nat} {H : Nat → Bool} (A : dv_A ty ga xs ys T G X Y) (hc : c < 2) (hi : i < 6) (hM : M < 128) (e : pr c = nI M) (hH : ∀ d, d < 7 → M.testBit d = H (7 * c + d))
    (h : post (nI (dg_s T G X Y H c i 7))) : wpX_degree post (fd, nm, ty, ga, xs, ys, pr, tr, fm, im) (nI c) (nI i) := by
  unfold wpX_degree
  exact ci_X hc (br_f (by decide) (ne_X hi (br_f (by decide) ⟨8, xl_deg21 A hc hi hM e hH h 7 0 8 rfl (by decide)⟩)))
end XOUT
/-! the reference: degree, devices, a free place -/
section YOUT
variable {th ty ga xs ys nn to : Nat → Int32} {T G X Y : Nat → Nat}
theorem yd_83 {post : Int32 → Prop} {J : Int32 → Int32 → Prop} {x1 : Int32} {l i d p q : Nat} (A : dv_A ty ga xs ys T G X Y) (hl : l < 14) (hi : i < 6)
    (h : J (nI (p + q + (if T l ≠ 2 ∧ G l = i then 1 else 0))) (nI (d + 1))) : wY_degree_83 post J x1 (nI i) (nI d) (nI l) (nI q) (nI p) th ty ga xs ys nn to := by
  refine ⟨vp_in_nI hl (by decide), ek_if (cm_eq (q := 2) (dv_T A (by omega)) rfl (dv_bT A l) (by decide)) (fun e => ?_) (fun e => ⟨vp_in_nI hl (by decide), ek_if (cm_eq (dv_G A (by omega)) rfl (dv_bG A l) (by omega)) (fun g => ?_) (fun g => ?_)⟩)⟩
  · rw [if_neg (fun z => z.1 e)] at h
    exact nm_r (by rw [nI_add, Int32.add_zero]; rfl) (nm_r (nI_1 d) h)
  · rw [if_pos ⟨e, g⟩] at h
    exact nm_r (by rw [nI_add, nI_1]) (nm_r (nI_1 d) h)
  · rw [if_neg (fun z => g z.2)] at h
    exact nm_r (by rw [nI_add, Int32.add_zero]; rfl) (nm_r (nI_1 d) h)
theorem yd_66 {post : Int32 → Prop} {J : Int32 → Int32 → Prop} {x1 : Int32} {l i d p q : Nat} (A : dv_A ty ga xs ys T G X Y) (hl : l < 14) (hi : i < 6)
    (h : J (nI (p + q + (if Y l = i then 1 else 0) + (if T l ≠ 2 ∧ G l = i then 1 else 0))) (nI (d + 1))) : wY_degree_66 post J x1 (nI i) (nI d) (nI l) (nI q) (nI p) th ty ga xs ys nn to := by
  unfold wY_degree_66
  rw [nI_add]
  refine ⟨vp_in_nI hl (by decide), ek_if (cm_eq (dv_Y A (by omega)) rfl (dv_bY A l) (by omega)) (fun e => ?_) (fun e => ?_)⟩
  · rw [if_pos e] at h
    exact yd_83 (q := 1) A hl hi h
  · rw [if_neg e] at h
    exact yd_83 (q := 0) A hl hi h
theorem yd_23 {post : Int32 → Prop} {c i : Nat} {H : Nat → Bool} (A : dv_A ty ga xs ys T G X Y) (hc : c < 2) (hi : i < 6) (hH : ∀ j, j < 14 → th_H th j = H j)
    (h : post (nI (dg_s T G X Y H c i 7))) : ∀ f d m, d + f = 7 → f < m → wY_degree_23 post (nI c) (nI i) th ty ga xs ys nn to m (nI (dg_s T G X Y H c i d)) (nI d) := by
  intro f
  induction f with
  | zero =>
    intro d m hd hm
    obtain ⟨m, rfl⟩ : ∃ j, m = j + 1 := ⟨m - 1, by omega⟩
    have e7 : d = 7 := by omega
    rw [e7]
    exact br_t (by decide) h
  | succ f ih =>
    intro d m hd hm
    obtain ⟨m, rfl⟩ : ∃ j, m = j + 1 := ⟨m - 1, by omega⟩
    have d7 : d < 7 := by omega
    have l14 : 7 * c + d < 14 := by omega
    have il : vp_in (nI (7 * c + d)) 14 := vp_in_nI l14 (by decide)
    refine br_f (nI_ge (b := 7) d7 (by decide)) (nm_r (ix_7' c d) ⟨il, ek_if (th_f (by omega)) (fun e => nm_r (nI_1 d) ?_) (fun e => ⟨il, ?_⟩)⟩)
    · rw [hH _ l14] at e
      have e1 : dg_s T G X Y H c i (d + 1) = dg_s T G X Y H c i d := by
        simp only [dg_s]
        rw [if_neg (th_cl e)]
        rfl
      rw [← e1]
      exact ih (d + 1) m (by omega) (by omega)
    · rw [hH _ l14] at e
      have e1 : dg_s T G X Y H c i (d + 1) = dg_s T G X Y H c i d + (if X (7 * c + d) = i then 1 else 0) + (if Y (7 * c + d) = i then 1 else 0) + (if T (7 * c + d) ≠ 2 ∧ G (7 * c + d) = i then 1 else 0) := by
        simp only [dg_s, dg_w]
        rw [if_pos (th_nf e)]
        omega
      have k := ih (d + 1) m (by omega) (by omega)
      rw [e1] at k
      refine ek_if (cm_eq (dv_X A (by omega)) rfl (dv_bX A _) (by omega)) (fun z => ?_) (fun z => ?_)
      · rw [if_pos z] at k
        exact yd_66 (q := 1) A l14 hi k
      · rw [if_neg z] at k
        exact yd_66 (q := 0) A l14 hi k
theorem yl_deg {post : Int32 → Prop} {c i : Nat} {H : Nat → Bool} (A : dv_A ty ga xs ys T G X Y) (hc : c < 2) (hi : i < 6) (hH : ∀ j, j < 14 → th_H th j = H j)
    (h : post (nI (dg_s T G X Y H c i 7))) : wpY_degree post (th, ty, ga, xs, ys, nn, to) (nI c) (nI i) := by
  unfold wpY_degree
  exact ci_Y hc (br_f (by decide) (ne_Y hi (br_f (by decide) ⟨8, yd_23 A hc hi hH h 7 0 8 rfl (by decide)⟩)))
def dm_m (H : Nat → Bool) (c : Nat) : Nat → Nat
  | 0 => 0
  | n + 1 => if H (7 * c + n) = true then dm_m H c n ||| 2 ^ n else dm_m H c n
theorem dm_lt {H : Nat → Bool} {c : Nat} : ∀ n, n ≤ 7 → dm_m H c n < 128 := by
  intro n
  induction n with
  | zero => intro _; exact (by decide : 0 < 128)
  | succ n ih =>
    intro h
    have h1 := ih (by omega)
    simp only [dm_m]
    by_cases z : H (7 * c + n) = true
    · rw [if_pos z]
      exact (bs_set _ h1 n (by omega)).2
    · rw [if_neg z]
      exact h1
theorem dm_T {H : Nat → Bool} {c j : Nat} (hj : j < 7) : ∀ n, n ≤ 7 → (dm_m H c n).testBit j = (decide (j < n) && H (7 * c + j)) := by
  intro n
  induction n with
  | zero =>
    intro _
    simp [dm_m]
  | succ n ih =>
    intro h
    have h1 := ih (by omega)
    have h2 := dm_lt (H := H) (c := c) n (by omega)
    simp only [dm_m]
    by_cases z : H (7 * c + n) = true
    · rw [if_pos z, bs_setT _ h2 n (by omega) j hj, h1]
      by_cases w : j = n
      · rw [w, z, decide_eq_true (show n < n + 1 by omega)]
        simp
      · have e1 : (j == n) = false := by rw [beq_eq_false_iff_ne]; exact w
        rw [e1, Bool.or_false]
        by_cases v : j < n
        · rw [decide_eq_true v, decide_eq_true (show j < n + 1 by omega)]
        · rw [decide_eq_false v, decide_eq_false (show ¬ j < n + 1 by omega)]
    · rw [if_neg z, h1]
      by_cases w : j = n
      · rw [w, th_nt z]
        simp
      · by_cases v : j < n
        · rw [decide_eq_true v, decide_eq_true (show j < n + 1 by omega)]
        · rw [decide_eq_false v, decide_eq_false (show ¬ j < n + 1 by omega)]
theorem yl_dev4 {post : Int32 → Prop} {c : Nat} {H : Nat → Bool} (hc : c < 2) (hH : ∀ j, j < 14 → th_H th j = H j) (h : post (nI (dm_m H c 7))) : ∀ f d m, d + f = 7 → f < m → wY_devices_4 post (nI c) th ty ga xs ys nn to m (nI (dm_m H c d)) (nI d) := by
  intro f
  induction f with
  | zero =>
    intro d m hd hm
    obtain ⟨m, rfl⟩ : ∃ j, m = j + 1 := ⟨m - 1, by omega⟩
    have e7 : d = 7 := by omega
    rw [e7]
    exact br_t (by decide) h
  | succ f ih =>
    intro d m hd hm
    obtain ⟨m, rfl⟩ : ∃ j, m = j + 1 := ⟨m - 1, by omega⟩
    have d7 : d < 7 := by omega
    have l14 : 7 * c + d < 14 := by omega
    refine br_f (nI_ge (b := 7) d7 (by decide)) (ci_Y hc (br_f (by decide) ?_))
    rw [ix_7']
    refine ⟨vp_in_nI l14 (by decide), ek_if (th_f (by omega)) (fun e => nm_r (nI_1 d) ?_) (fun e => nm_r (e' := nI (dm_m H c (d + 1))) ?_ (nm_r (nI_1 d) (ih (d + 1) m (by omega) (by omega))))⟩
    · rw [hH _ l14] at e
      have e1 : dm_m H c (d + 1) = dm_m H c d := by
        simp only [dm_m]
        rw [if_neg (th_cl e)]
      rw [← e1]
      exact ih (d + 1) m (by omega) (by omega)
    · rw [hH _ l14] at e
      rw [(bs_set _ (dm_lt d (by omega)) d d7).1]
      simp only [dm_m]
      rw [if_pos (th_nf e)]
theorem yl_dev {post : Int32 → Prop} {c : Nat} {H : Nat → Bool} (hc : c < 2) (hH : ∀ j, j < 14 → th_H th j = H j) (h : post (nI (dm_m H c 7))) : wpY_devices post (th, ty, ga, xs, ys, nn, to) (nI c) :=
  ⟨8, yl_dev4 hc hH h 7 0 8 rfl (by decide)⟩
theorem ya_57f {post : Int32 → SY → Prop} {c : Nat} {x2 x3 : Int32} (hc : c < 2) (hH : ∀ d, d < 7 → th_H th (7 * c + d) = true) (h : post (-2) (th, ty, ga, xs, ys, nn, to)) : ∀ f d m, d + f = 7 → f < m → wY_add_57 post (nI c) x2 x3 th ty ga xs ys nn to m (nI d) := by
  intro f
  induction f with
  | zero =>
    intro d m hd hm
    obtain ⟨m, rfl⟩ : ∃ j, m = j + 1 := ⟨m - 1, by omega⟩
    have e7 : d = 7 := by omega
    rw [e7]
    exact br_t (by decide) h
  | succ f ih =>
    intro d m hd hm
    obtain ⟨m, rfl⟩ : ∃ j, m = j + 1 := ⟨m - 1, by omega⟩
    have d7 : d < 7 := by omega
    have l14 : 7 * c + d < 14 := by omega
    exact br_f (nI_ge (b := 7) d7 (by decide)) (nm_r (ix_7' c d) ⟨vp_in_nI l14 (by decide), ek_if (th_f (by omega)) (fun e => absurd (hH d d7) (th_cl e)) (fun _ => nm_r (nI_1 d) (ih (d + 1) m (by omega) (by omega)))⟩)
theorem ya_57 {post : Int32 → SY → Prop} {c e : Nat} {x2 x3 : Int32} (hc : c < 2) (he : e < 7) (hH : ∀ d, d < e → th_H th (7 * c + d) = true) (hE : th_H th (7 * c + e) = false)
    (h : post (nI e) (upd th (7 * c + e) 1, upd ty (7 * c + e) x2, upd ga (7 * c + e) (x3 &&& 7), upd xs (7 * c + e) ((x3 >>> ((3 : Int32) &&& 31)) &&& 7), upd ys (7 * c + e) (x3 >>> ((6 : Int32) &&& 31)), nn, to)) : ∀ f d m, d + f = e → f < m → wY_add_57 post (nI c) x2 x3 th ty ga xs ys nn to m (nI d) := by
  intro f
  induction f with
  | zero =>
    intro d m hd hm
    obtain ⟨m, rfl⟩ : ∃ j, m = j + 1 := ⟨m - 1, by omega⟩
    have e7 : d = e := by omega
    have l14 : 7 * c + e < 14 := by omega
    have il : vp_in (nI (7 * c + e)) 14 := vp_in_nI l14 (by decide)
    have ec : (nI (7 * c + e)).toNatClampNeg = 7 * c + e := nI_clamp (by omega)
    rw [e7]
    refine br_f (nI_ge (b := 7) he (by decide)) (nm_r (ix_7' c e) ⟨il, ek_if (th_f (by omega)) (fun _ => ?_) (fun z => absurd hE z)⟩)
    rw [ec]
    exact ⟨il, nm_r (e' := upd th (7 * c + e) 1) (by rw [sp_v1]) ⟨il, nm_e ⟨il, nm_e ⟨il, nm_e ⟨il, nm_e h⟩⟩⟩⟩⟩
  | succ f ih =>
    intro d m hd hm
    obtain ⟨m, rfl⟩ : ∃ j, m = j + 1 := ⟨m - 1, by omega⟩
    have d7 : d < 7 := by omega
    have l14 : 7 * c + d < 14 := by omega
    exact br_f (nI_ge (b := 7) d7 (by decide)) (nm_r (ix_7' c d) ⟨vp_in_nI l14 (by decide), ek_if (th_f (by omega)) (fun z => absurd (hH d (by omega)) (th_cl z)) (fun _ => nm_r (nI_1 d) (ih (d + 1) m (by omega) (by omega)))⟩)
end YOUT
end
section
/-! the relation, and what add, remove and name do to it -/
def rl_C (nm ty ga xs ys pr th nn : Nat → Int32) (T G X Y M : Nat → Nat) : Prop := dv_A ty ga xs ys T G X Y ∧ (∀ j, j < 12 → nn j = nm j + 1) ∧ (∀ c, c < 2 → pr c = nI (M c) ∧ M c < 128 ∧ ∀ d, d < 7 → (M c).testBit d = th_H th (7 * c + d))
def i_Rel (k : Nat) (u : SX) (v : SY) : Prop := ∃ (fd : Int32) (nm ty ga xs ys pr tr fm im th nn to : Nat → Int32) (T G X Y M : Nat → Nat), rl_C nm ty ga xs ys pr th nn T G X Y M ∧ u = (fd, nm, ty, ga, xs, ys, pr, tr, fm, im) ∧ v = (th, ty, ga, xs, ys, nn, to)
section RELA
variable {fd : Int32} {nm ty ga xs ys pr tr fm im th nn to : Nat → Int32} {T G X Y M : Nat → Nat}
theorem rl_mk {k : Nat} (h : rl_C nm ty ga xs ys pr th nn T G X Y M) : i_Rel k (fd, nm, ty, ga, xs, ys, pr, tr, fm, im) (th, ty, ga, xs, ys, nn, to) :=
  ⟨fd, nm, ty, ga, xs, ys, pr, tr, fm, im, th, nn, to, T, G, X, Y, M, h, rfl, rfl⟩
theorem rl_u {a : Nat → Int32} {A : Nat → Nat} {s v : Nat} (h : ∀ j, a j = nI (A j)) (j : Nat) : upd a s (nI v) j = nI (if j = s then v else A j) := by
  by_cases e : j = s
  · rw [if_pos e, e, pk_us]
  · rw [if_neg e, pk_un e]
    exact h j
theorem rl_b {A : Nat → Nat} {s v B : Nat} (hv : v < B) (h : ∀ j, A j < B) (j : Nat) : (if j = s then v else A j) < B := by
  by_cases e : j = s
  · rw [if_pos e]
    exact hv
  · rw [if_neg e]
    exact h j
theorem rl_add {c d tp g x y : Nat} (C : rl_C nm ty ga xs ys pr th nn T G X Y M) (hc : c < 2) (hd : d < 7) (h1 : tp < 3) (h2 : g < 6) (h3 : x < 6) (h4 : y < 6) :
    rl_C nm (upd ty (7 * c + d) (nI tp)) (upd ga (7 * c + d) (nI g)) (upd xs (7 * c + d) (nI x)) (upd ys (7 * c + d) (nI y)) (upd pr c (nI (M c ||| 2 ^ d))) (upd th (7 * c + d) 1) nn
      (fun j => if j = 7 * c + d then tp else T j) (fun j => if j = 7 * c + d then g else G j) (fun j => if j = 7 * c + d then x else X j) (fun j => if j = 7 * c + d then y else Y j) (fun e => if e = c then M c ||| 2 ^ d else M e) := by
  obtain ⟨A, hN, hM⟩ := C
  refine ⟨⟨fun j => ⟨rl_u (fun j => (A.1 j).1) j, rl_u (fun j => (A.1 j).2.1) j, rl_u (fun j => (A.1 j).2.2.1) j, rl_u (fun j => (A.1 j).2.2.2) j⟩, fun j => ⟨rl_b h1 (fun j => (A.2 j).1) j, rl_b h2 (fun j => (A.2 j).2.1) j, rl_b h3 (fun j => (A.2 j).2.2.1) j, rl_b h4 (fun j => (A.2 j).2.2.2) j⟩⟩, hN, fun e he => ?_⟩
  obtain ⟨m1, m2, m3⟩ := hM c hc
  by_cases z : e = c
  · rw [z]
    show upd pr c (nI (M c ||| 2 ^ d)) c = nI (if c = c then M c ||| 2 ^ d else M c) ∧ (if c = c then M c ||| 2 ^ d else M c) < 128 ∧ ∀ j, j < 7 → (if c = c then M c ||| 2 ^ d else M c).testBit j = _
    rw [if_pos rfl, pk_us]
    refine ⟨rfl, (bs_set _ m2 d hd).2, fun j hj => ?_⟩
    rw [bs_setT _ m2 d hd j hj, sp_H1, m3 j hj]
    by_cases w : j = d
    · rw [w]
      simp
    · have q1 : (j == d) = false := by rw [beq_eq_false_iff_ne]; exact w
      have q2 : (7 * c + j == 7 * c + d) = false := by rw [beq_eq_false_iff_ne]; omega
      rw [q1, q2]
  · obtain ⟨n1, n2, n3⟩ := hM e he
    show upd pr c (nI (M c ||| 2 ^ d)) e = nI (if e = c then M c ||| 2 ^ d else M e) ∧ (if e = c then M c ||| 2 ^ d else M e) < 128 ∧ ∀ j, j < 7 → (if e = c then M c ||| 2 ^ d else M e).testBit j = _
    rw [if_neg z, pk_un z]
    refine ⟨n1, n2, fun j hj => ?_⟩
    have q2 : (7 * e + j == 7 * c + d) = false := by rw [beq_eq_false_iff_ne]; omega
    rw [sp_H1, n3 j hj, q2, Bool.or_false]
theorem rl_rem {c d : Nat} (C : rl_C nm ty ga xs ys pr th nn T G X Y M) (hc : c < 2) (hd : d < 7) :
    rl_C nm ty ga xs ys (upd pr c (nI (bs_clr (M c) d))) (upd th (7 * c + d) 0) nn T G X Y (fun e => if e = c then bs_clr (M c) d else M e) := by
  obtain ⟨A, hN, hM⟩ := C
  refine ⟨A, hN, fun e he => ?_⟩
  obtain ⟨m1, m2, m3⟩ := hM c hc
  by_cases z : e = c
  · rw [z]
    show upd pr c (nI (bs_clr (M c) d)) c = nI (if c = c then bs_clr (M c) d else M c) ∧ (if c = c then bs_clr (M c) d else M c) < 128 ∧ ∀ j, j < 7 → (if c = c then bs_clr (M c) d else M c).testBit j = _
    rw [if_pos rfl, pk_us]
    refine ⟨rfl, (bs_clrI _ m2 d hd).2, fun j hj => ?_⟩
    rw [bs_clrT _ m2 d hd j hj, sp_H0, m3 j hj]
    by_cases w : j = d
    · rw [w]
      simp
    · have q1 : (j == d) = false := by rw [beq_eq_false_iff_ne]; exact w
      have q2 : (7 * c + j == 7 * c + d) = false := by rw [beq_eq_false_iff_ne]; omega
      rw [q1, q2]
  · obtain ⟨n1, n2, n3⟩ := hM e he
    show upd pr c (nI (bs_clr (M c) d)) e = nI (if e = c then bs_clr (M c) d else M e) ∧ (if e = c then bs_clr (M c) d else M e) < 128 ∧ ∀ j, j < 7 → (if e = c then bs_clr (M c) d else M e).testBit j = _
    rw [if_neg z, pk_un z]
    refine ⟨n1, n2, fun j hj => ?_⟩
    have q2 : (7 * e + j == 7 * c + d) = false := by rw [beq_eq_false_iff_ne]; omega
    rw [sp_H0, n3 j hj, q2]
    simp
theorem rl_name {s : Nat} {v : Int32} (C : rl_C nm ty ga xs ys pr th nn T G X Y M) : rl_C (upd nm s v) ty ga xs ys pr th (upd nn s (v + 1)) T G X Y M := by
  obtain ⟨A, hN, hM⟩ := C
  refine ⟨A, fun j hj => ?_, hM⟩
  by_cases e : j = s
  · rw [e, pk_us, pk_us]
  · rw [pk_un e, pk_un e]
    exact hN j hj
/-! add, the reference's side -/
theorem ne_no2 (p : Int32) : (∃ c, c < 6 ∧ p = nI c) ∨ ((¬ ∃ c, c < 6 ∧ p = nI c) ∧ (∀ post : Int32 → Prop, post 0 → wpX_isNet post p)) := by
  by_cases h : ∃ c, c < 6 ∧ p = nI c
  · exact Or.inl h
  · exact Or.inr ⟨h, (ne_no p).resolve_left h |>.1⟩
theorem sh_neg {x : Int32} (h : ¬ 0 ≤ x) : ¬ ∃ c, c < 6 ∧ x >>> ((6 : Int32) &&& 31) = nI c := by
  rintro ⟨c, hc, e⟩
  have h1 := pk_shr x ((6 : Int32) &&& 31) 6 (by decide)
  rw [e, nI_toInt (by omega), Int.shiftRight_eq_div_pow] at h1
  have h2 : ((2 ^ 6 : Nat) : Int) = 64 := rfl
  rw [h2] at h1
  rw [Int32.le_iff_toInt_le, show (0 : Int32).toInt = 0 by decide] at h
  omega
theorem ya_bad1 {post : Int32 → SY → Prop} {c : Nat} {v2 v3 : Int32} (hc : c < 2) (h : v2 < 0 ∨ nI 3 ≤ v2) (hp : post (-1) (th, ty, ga, xs, ys, nn, to)) : wpY_add post (th, ty, ga, xs, ys, nn, to) (nI c) v2 v3 := by
  unfold wpY_add
  refine ci_Y hc (br_f (by decide) ?_)
  rcases h with h | h
  · exact br_t h hp
  · have h' : (3 : Int32) ≤ v2 := h
    have z : ¬ v2 < 0 := fun e => absurd (Int32.lt_of_le_of_lt h' e) (by decide)
    have w : (2 : Int32) < v2 := Int32.lt_of_lt_of_le (by decide) h'
    exact br_f z (br_t w hp)
theorem ya_net {post : Int32 → SY → Prop} {c t : Nat} {v3 : Int32} (hc : c < 2) (ht : t < 3) (hb : (¬ ((∃ g, g < 6 ∧ v3 &&& 7 = nI g) ∧ (∃ x, x < 6 ∧ (v3 >>> ((3 : Int32) &&& 31)) &&& 7 = nI x) ∧ (∃ y, y < 6 ∧ v3 >>> ((6 : Int32) &&& 31) = nI y))) → post (-1) (th, ty, ga, xs, ys, nn, to))
    (hg : ((∃ g, g < 6 ∧ v3 &&& 7 = nI g) ∧ (∃ x, x < 6 ∧ (v3 >>> ((3 : Int32) &&& 31)) &&& 7 = nI x) ∧ (∃ y, y < 6 ∧ v3 >>> ((6 : Int32) &&& 31) = nI y)) → ∃ n, wY_add_57 post (nI c) (nI t) v3 th ty ga xs ys nn to n 0) : wpY_add post (th, ty, ga, xs, ys, nn, to) (nI c) (nI t) v3 := by
  have yes : ∀ {p : Int32} {post : Int32 → Prop}, (∃ g, g < 6 ∧ p = nI g) → post 1 → wpY_net post (th, ty, ga, xs, ys, nn, to) p := fun ⟨g, h1, h2⟩ hp => by rw [h2]; exact ne_Y h1 hp
  have no : ∀ {p : Int32} {post : Int32 → Prop}, (¬ ∃ g, g < 6 ∧ p = nI g) → post 0 → wpY_net post (th, ty, ga, xs, ys, nn, to) p := fun {p} {post} h hp => ((ne_no p).resolve_left h).2 post _ _ _ _ _ _ _ hp
  unfold wpY_add
  refine ci_Y hc (br_f (by decide) (br_f (nI_pos (by omega)) (br_f (nI_nlt (a := 2) (by omega) (by decide)) ?_)))
  by_cases h1 : ∃ g, g < 6 ∧ v3 &&& 7 = nI g
  · refine yes h1 (br_f (by decide) ?_)
    by_cases h2 : ∃ x, x < 6 ∧ (v3 >>> ((3 : Int32) &&& 31)) &&& 7 = nI x
    · refine yes h2 (br_f (by decide) ?_)
      by_cases h3 : ∃ y, y < 6 ∧ v3 >>> ((6 : Int32) &&& 31) = nI y
      · exact yes h3 (br_f (by decide) (hg ⟨h1, h2, h3⟩))
      · exact no h3 (br_t rfl (hb (fun z => h3 z.2.2)))
    · exact no h2 (br_t rfl (hb (fun z => h2 z.2.1)))
  · exact no h1 (br_t rfl (hb (fun z => h1 z.1)))
end RELA
end
section
theorem i_up {k : Nat} {u : SX} {v : SY} (h : i_Rel k u v) : i_Rel (k + 4) u v := h
theorem xi_77 {post : SX → Prop} {fd : Int32} {ty ga xs ys pr tr fm im : Nat → Int32} (h : ∀ nm : Nat → Int32, (∀ j, j < 12 → nm j = -1) → post (fd, nm, ty, ga, xs, ys, pr, tr, fm, im)) : ∀ f k m (nm : Nat → Int32), k + f = 12 → f < m → (∀ j, j < k → nm j = -1) → wX_init_77 post fd m (nI k) nm ty ga xs ys pr tr fm im := by
  intro f
  induction f with
  | zero =>
    intro k m nm hk hm hE
    obtain ⟨m, rfl⟩ : ∃ j, m = j + 1 := ⟨m - 1, by omega⟩
    have e : k = 12 := by omega
    rw [e] at hE ⊢
    exact br_t (by decide) (h nm hE)
  | succ f ih =>
    intro k m nm hk hm hE
    obtain ⟨m, rfl⟩ : ∃ j, m = j + 1 := ⟨m - 1, by omega⟩
    have k12 : k < 12 := by omega
    refine br_f (nI_ge (b := 12) k12 (by decide)) ⟨vp_in_nI k12 (by decide), nm_r (e' := upd nm k (-1)) (by rw [nI_clamp (by omega)]) (nm_r (nI_1 k) (ih (k + 1) m _ (by omega) (by omega) (fun j hj => ?_)))⟩
    rcases Nat.lt_or_ge j k with z | z
    · rw [pk_un (by omega)]
      exact hE j z
    · have e : j = k := by omega
      rw [e, pk_us]
theorem i_vc0 : wpX_init (fun u => wpY_init (fun v => i_Rel 0 u v)) := by
  refine ⟨13, xi_77 (fun nm hE => ?_) 12 0 13 (fun _ => 0) rfl (by decide) (fun j h => absurd h (Nat.not_lt_zero j))⟩
  unfold wpY_init
  refine rl_mk (T := fun _ => 0) (G := fun _ => 0) (X := fun _ => 0) (Y := fun _ => 0) (M := fun _ => 0) ⟨⟨fun j => ⟨rfl, rfl, rfl, rfl⟩, fun j => ⟨(by decide : 0 < 3), (by decide : 0 < 6), (by decide : 0 < 6), (by decide : 0 < 6)⟩⟩, fun j hj => ?_, fun c hc => ⟨rfl, (by decide : 0 < 128), fun d hd => ?_⟩⟩
  · rw [hE j hj]
    exact (by decide : (0 : Int32) = -1 + 1)
  · show (0 : Nat).testBit d = th_H (fun _ => 0) (7 * c + d)
    simp [th_H]
theorem i_vc_add {k : Nat} {u : SX} {v : SY} (I : i_Rel k u v) (hk : k + 4 ≤ 2048) (v1 : Int32) (v2 : Int32) (v3 : Int32) : wpX_add (fun r u' => wpY_add (fun r' v' => r' = r ∧ i_Rel (k + 4) u' v') v v1 v2 v3) u v1 v2 v3 := by
  obtain ⟨fd, nm, ty, ga, xs, ys, pr, tr, fm, im, th, nn, to, T, G, X, Y, M, C, rfl, rfl⟩ := I
  rcases ci_no v1 with ⟨c, hc, rfl⟩ | ⟨nx, ny⟩
  · obtain ⟨m1, m2, m3⟩ := C.2.2 c hc
    rcases pk_ix v2 (n := 3) (by omega) with h | h | ⟨t, ht, rfl⟩
    · unfold wpX_add
      exact ci_X hc (br_f (by decide) (br_t h (ya_bad1 hc (Or.inl h) ⟨rfl, rl_mk C⟩)))
    · have h' : (3 : Int32) ≤ v2 := h
      have z : ¬ v2 < 0 := fun e => absurd (Int32.lt_of_le_of_lt h' e) (by decide)
      unfold wpX_add
      exact ci_X hc (br_f (by decide) (br_f z (br_t h' (ya_bad1 hc (Or.inr h) ⟨rfl, rl_mk C⟩))))
    · have bad : ∀ n : ¬ ((∃ g, g < 6 ∧ v3 &&& 7 = nI g) ∧ (∃ x, x < 6 ∧ (v3 >>> ((3 : Int32) &&& 31)) &&& 7 = nI x) ∧ (∃ y, y < 6 ∧ v3 >>> ((6 : Int32) &&& 31) = nI y)), wpY_add (fun r' v' => r' = (-1) ∧ i_Rel (k + 4) (fd, nm, ty, ga, xs, ys, pr, tr, fm, im) v') (th, ty, ga, xs, ys, nn, to) (nI c) (nI t) v3 := fun n => ya_net hc ht (fun _ => ⟨rfl, rl_mk C⟩) (fun z => absurd z n)
      unfold wpX_add
      refine ci_X hc (br_f (by decide) (br_f (nI_pos (by omega)) (br_f (nI_ge (b := 3) ht (by decide)) (br_c (fun h0 => ?_) (fun h0 => bad (fun z => sh_neg h0 z.2.2))))))
      rcases ne_no2 (v3 &&& 7) with ⟨g, hg, eg⟩ | ⟨n1, n2⟩
      · rcases ne_no2 ((v3 >>> ((3 : Int32) &&& 31)) &&& 7) with ⟨x, hx, ex⟩ | ⟨n1, n2⟩
        · rcases ne_no2 (v3 >>> ((6 : Int32) &&& 31)) with ⟨y, hy, ey⟩ | ⟨n1, n2⟩
          · refine nm_r eg (nm_r ex (nm_r ey (ne_X hg (br_f (by decide) (ne_X hx (br_f (by decide) (ne_X hy (br_f (by decide) ?_))))))))
            refine xl_free hc m2 m1 (fun d hd hlt hbit => ?_) (fun hall => br_t rfl (ya_net hc ht (fun n => absurd ⟨⟨g, hg, eg⟩, ⟨x, hx, ex⟩, ⟨y, hy, ey⟩⟩ n) (fun _ => ⟨8, ya_57f hc (fun d hd => by rw [← m3 d hd]; exact hall d hd) ⟨rfl, rl_mk C⟩ 7 0 8 rfl (by decide)⟩)))
            have hne : ¬ nI d = -1 := fun h => by
              have h5 := nI_pos (n := d) (by omega)
              rw [h] at h5
              exact h5 (by decide)
            have il : vp_in (nI (7 * c + d)) 14 := vp_in_nI (by omega) (by decide)
            have ec : (nI (7 * c + d)).toNatClampNeg = 7 * c + d := nI_clamp (by omega)
            refine br_f hne (nm_r (ix_7 c d) ?_)
            rw [ec]
            refine ⟨il, nm_e ⟨il, nm_e ⟨il, nm_e ⟨il, nm_e ⟨vp_in_nI hc (by decide), vp_in_nI hc (by decide), nm_r (e' := upd pr c (nI (M c ||| 2 ^ d))) ?_ ?_⟩⟩⟩⟩⟩
            · rw [nI_clamp (by omega), m1, (bs_set _ m2 d hd).1]
            · refine ya_net hc ht (fun n => absurd ⟨⟨g, hg, eg⟩, ⟨x, hx, ex⟩, ⟨y, hy, ey⟩⟩ n) (fun _ => ⟨8, ya_57 hc hd (fun j hj => by rw [← m3 j (by omega)]; exact hlt j hj) (by rw [← m3 d hd]; exact hbit) ⟨rfl, ?_⟩ d 0 8 (by omega) (by omega)⟩)
              rw [eg, ex, ey]
              exact rl_mk (rl_add C hc hd ht hg hx hy)
          · exact nm_r eg (nm_r ex (nm_e (ne_X hg (br_f (by decide) (ne_X hx (br_f (by decide) (n2 _ (br_t rfl (bad (fun z => n1 z.2.2))))))))))
        · exact nm_r eg (nm_e (nm_e (ne_X hg (br_f (by decide) (n2 _ (br_t rfl (bad (fun z => n1 z.2.1))))))))
      · exact nm_e (nm_e (nm_e (n2 _ (br_t rfl (bad (fun z => n1 z.1))))))
  · unfold wpX_add
    refine nx _ (br_t rfl ?_)
    unfold wpY_add
    exact ny _ _ _ _ _ _ _ _ (br_t rfl ⟨rfl, rl_mk C⟩)
theorem i_vc_remove {k : Nat} {u : SX} {v : SY} (I : i_Rel k u v) (hk : k + 4 ≤ 2048) (v1 : Int32) (v2 : Int32) : wpX_remove (fun r u' => wpY_remove (fun r' v' => r' = r ∧ i_Rel (k + 4) u' v') v v1 v2) u v1 v2 := by
  obtain ⟨fd, nm, ty, ga, xs, ys, pr, tr, fm, im, th, nn, to, T, G, X, Y, M, C, rfl, rfl⟩ := I
  unfold wpX_remove wpY_remove
  dsimp only
  rcases ci_no v1 with ⟨c, hc, rfl⟩ | ⟨nx, ny⟩
  · obtain ⟨m1, m2, m3⟩ := C.2.2 c hc
    rcases pk_ix v2 (n := 7) (by omega) with h | h | ⟨d, hd, rfl⟩
    · exact ci_X hc (br_f (by decide) (br_t h (ci_Y hc (br_f (by decide) (br_t h ⟨rfl, rl_mk C⟩)))))
    · have h' : (7 : Int32) ≤ v2 := h
      have z : ¬ v2 < 0 := fun e => absurd (Int32.lt_of_le_of_lt h' e) (by decide)
      have w : (6 : Int32) < v2 := Int32.lt_of_lt_of_le (by decide) h'
      exact ci_X hc (br_f (by decide) (br_f z (br_t h' (ci_Y hc (br_f (by decide) (br_f z (br_t w ⟨rfl, rl_mk C⟩)))))))
    · have il : vp_in (nI (7 * c + d)) 14 := vp_in_nI (by omega) (by decide)
      have ic : vp_in (nI c) 2 := vp_in_nI hc (by decide)
      have ec : (nI (7 * c + d)).toNatClampNeg = 7 * c + d := nI_clamp (by omega)
      have p0 : ¬ nI d < 0 := nI_pos (by omega)
      have p6 : ¬ (6 : Int32) < nI d := nI_nlt (a := 6) (by omega) (by decide)
      rw [ix_7']
      refine ci_X hc (br_f (by decide) (br_f p0 (br_f (nI_ge (b := 7) hd (by decide)) ⟨ic, ?_⟩)))
      rw [cm_at (by omega) m1]
      refine hb_X m2 hd (fun hbit => br_f (by decide) ⟨ic, ic, nm_r (e' := upd pr c (nI (bs_clr (M c) d))) ?_ ?_⟩) (fun hbit => br_t rfl ?_)
      · rw [nI_clamp (by omega), (bs_clrI _ m2 d hd).1]
      · refine ci_Y hc (br_f (by decide) (br_f p0 (br_f p6 ⟨il, ek_if (th_f (by omega)) (fun e => absurd hbit (th_cl (by rw [m3 d hd]; exact e))) (fun e => ⟨il, nm_r (e' := upd th (7 * c + d) 0) (by rw [ec, sp_v0]) ⟨rfl, rl_mk (rl_rem C hc hd)⟩⟩)⟩)))
      · exact ci_Y hc (br_f (by decide) (br_f p0 (br_f p6 ⟨il, ek_if (th_f (by omega)) (fun e => ⟨rfl, rl_mk C⟩) (fun e => absurd (by rw [← m3 d hd]; exact hbit) e)⟩)))
  · exact nx _ (br_t rfl (ny _ _ _ _ _ _ _ _ (br_t rfl ⟨rfl, rl_mk C⟩)))
theorem nc_i (v : Int32) : (v = -1 → ¬ v < -1 ∧ v ≤ 3) ∧ (¬ v < 0 → ¬ v < -1) ∧ (v < 4 ↔ v ≤ 3) ∧ (¬ v = -1 → v < 0 → v < -1) := by
  have a : (-1 : Int32).toInt = -1 := by decide
  have b : (0 : Int32).toInt = 0 := by decide
  have c : (3 : Int32).toInt = 3 := by decide
  have d : (4 : Int32).toInt = 4 := by decide
  have e : v = -1 ↔ v.toInt = -1 := by rw [← a, Int32.toInt_inj]
  rw [e]
  simp only [Int32.lt_iff_toInt_lt, Int32.le_iff_toInt_le, a, b, c, d]
  omega
theorem i_vc_name {k : Nat} {u : SX} {v : SY} (I : i_Rel k u v) (hk : k + 4 ≤ 2048) (v1 : Int32) (v2 : Int32) (v3 : Int32) : wpX_name (fun r u' => wpY_name (fun r' v' => r' = r ∧ i_Rel (k + 4) u' v') v v1 v2 v3) u v1 v2 v3 := by
  obtain ⟨fd, nm, ty, ga, xs, ys, pr, tr, fm, im, th, nn, to, T, G, X, Y, M, C, rfl, rfl⟩ := I
  unfold wpX_name wpY_name
  dsimp only
  rcases ci_no v1 with ⟨c, hc, rfl⟩ | ⟨nx, ny⟩
  · rcases ne_no v2 with ⟨i, hi, rfl⟩ | ⟨nx, ny⟩
    · obtain ⟨q1, q2, q3, q4⟩ := nc_i v3
      have il : vp_in (nI (6 * c + i)) 12 := vp_in_nI (by omega) (by decide)
      have ec : (nI (6 * c + i)).toNatClampNeg = 6 * c + i := nI_clamp (by omega)
      rw [ix_6']
      have good : ¬ v3 < -1 → v3 ≤ 3 → wX_name_32 (fun r u' => wpY_circuit (fun r_1 => (r_1 = 0 → 0 = r ∧ i_Rel (k + 4) u' (th, ty, ga, xs, ys, nn, to)) ∧ (¬ r_1 = 0 → wpY_net (fun r_10 => (r_10 = 0 → 0 = r ∧ i_Rel (k + 4) u' (th, ty, ga, xs, ys, nn, to)) ∧ (¬ r_10 = 0 → (v3 < -1 → 0 = r ∧ i_Rel (k + 4) u' (th, ty, ga, xs, ys, nn, to)) ∧ (¬ v3 < -1 → (v3 ≤ 3 → vp_in (nI (6 * c + i)) 12 ∧ ∀ a_names_22 : Nat → Int32, a_names_22 = upd nn (nI (6 * c + i)).toNatClampNeg (v3 + 1) → 1 = r ∧ i_Rel (k + 4) u' (th, ty, ga, xs, ys, a_names_22, to)) ∧ (¬ v3 ≤ 3 → 0 = r ∧ i_Rel (k + 4) u' (th, ty, ga, xs, ys, nn, to))))) (th, ty, ga, xs, ys, nn, to) (nI i))) (th, ty, ga, xs, ys, nn, to) (nI c)) (nI c) (nI i) v3 fd nm ty ga xs ys pr tr fm im := fun g1 g2 => by
        unfold wX_name_32
        rw [ix_6]
        refine ⟨il, nm_r (e' := upd nm (6 * c + i) v3) (by rw [ec]) ?_⟩
        exact ci_Y hc (br_f (by decide) (ne_Y hi (br_f (by decide) (br_f g1 (br_t g2 ⟨il, nm_r (e' := upd nn (6 * c + i) (v3 + 1)) (by rw [ec]) ⟨rfl, rl_mk (rl_name C)⟩⟩)))))
      refine ci_X hc (br_f (by decide) (ne_X hi (br_f (by decide) (br_c (fun h => good (q1 h).1 (q1 h).2) (fun h => br_c (fun h2 => ?_) (fun h2 => br_c (fun h3 => good (q2 h2) (q3.mp h3)) (fun h3 => ?_)))))))
      · exact ci_Y hc (br_f (by decide) (ne_Y hi (br_f (by decide) (br_t (q4 h h2) ⟨rfl, rl_mk C⟩))))
      · exact ci_Y hc (br_f (by decide) (ne_Y hi (br_f (by decide) (br_f (q2 h2) (br_f (fun z => h3 (q3.mpr z)) ⟨rfl, rl_mk C⟩)))))
    · exact ci_X hc (br_f (by decide) (nx _ (br_t rfl (ci_Y hc (br_f (by decide) (ny _ _ _ _ _ _ _ _ (br_t rfl ⟨rfl, rl_mk C⟩)))))))
  · exact nx _ (br_t rfl (ny _ _ _ _ _ _ _ _ (br_t rfl ⟨rfl, rl_mk C⟩)))
theorem i_vc_devices {k : Nat} {u : SX} {v : SY} (I : i_Rel k u v) (hk : k + 4 ≤ 2048) (v1 : Int32) : wpX_devices (fun r => wpY_devices (fun r' => r' = r ∧ i_Rel (k + 4) u v) v v1) u v1 := by
  obtain ⟨fd, nm, ty, ga, xs, ys, pr, tr, fm, im, th, nn, to, T, G, X, Y, M, C, rfl, rfl⟩ := I
  rcases ci_no v1 with ⟨c, hc, rfl⟩ | ⟨nx, ny⟩
  · obtain ⟨m1, m2, m3⟩ := C.2.2 c hc
    have e : dm_m (th_H th) c 7 = M c := bs_ext _ (dm_lt 7 (Nat.le_refl 7)) _ m2 (fun j hj => by rw [dm_T hj 7 (Nat.le_refl 7), m3 j hj, decide_eq_true hj, Bool.true_and])
    unfold wpX_devices
    refine ci_X hc (br_f (by decide) ⟨vp_in_nI hc (by decide), ?_⟩)
    rw [cm_at (by omega) m1]
    exact yl_dev hc (fun j _ => rfl) ⟨by rw [e], rl_mk C⟩
  · unfold wpX_devices
    refine nx _ (br_t rfl ⟨1, ?_⟩)
    exact br_f (by decide) (ny _ _ _ _ _ _ _ _ (br_t rfl ⟨rfl, rl_mk C⟩))
theorem i_vc_degree {k : Nat} {u : SX} {v : SY} (I : i_Rel k u v) (hk : k + 4 ≤ 2048) (v1 : Int32) (v2 : Int32) : wpX_degree (fun r => wpY_degree (fun r' => r' = r ∧ i_Rel (k + 4) u v) v v1 v2) u v1 v2 := by
  obtain ⟨fd, nm, ty, ga, xs, ys, pr, tr, fm, im, th, nn, to, T, G, X, Y, M, C, rfl, rfl⟩ := I
  rcases ci_no v1 with ⟨c, hc, rfl⟩ | ⟨nx, ny⟩
  · rcases ne_no v2 with ⟨i, hi, rfl⟩ | ⟨nx, ny⟩
    · obtain ⟨m1, m2, m3⟩ := C.2.2 c hc
      exact xl_deg (H := th_H th) C.1 hc hi m2 m1 m3 (yl_deg (H := th_H th) C.1 hc hi (fun j _ => rfl) ⟨rfl, rl_mk C⟩)
    · unfold wpX_degree wpY_degree
      exact ci_X hc (br_f (by decide) (nx _ (br_t rfl (ci_Y hc (br_f (by decide) (ny _ _ _ _ _ _ _ _ (br_t rfl ⟨rfl, rl_mk C⟩)))))))
  · unfold wpX_degree wpY_degree
    exact nx _ (br_t rfl (ny _ _ _ _ _ _ _ _ (br_t rfl ⟨rfl, rl_mk C⟩)))
theorem i_vc_match {k : Nat} {u : SX} {v : SY} (I : i_Rel k u v) (hk : k + 4 ≤ 2048) : wpX_match (fun r u' => wpY_match (fun r' v' => r' = r ∧ i_Rel (k + 4) u' v') v) u := by
  obtain ⟨fd, nm, ty, ga, xs, ys, pr, tr, fm, im, th, nn, to, T, G, X, Y, M, C, rfl, rfl⟩ := I
  obtain ⟨a1, a2, a3⟩ := C.2.2 0 (by decide)
  obtain ⟨b1, b2, b3⟩ := C.2.2 1 (by decide)
  have FX : rl_X T G X Y nm (M 0) (M 1) 0 1 (rl_F T G X Y (th_H th) nn 0 1) := rl_FX (by decide) (by decide) C.2.1 a3 b3
  have FY : rl_Y T G X Y th nn 0 1 (rl_F T G X Y (th_H th) nn 0 1) := rl_FY (by decide) (by decide) (fun j _ => rfl)
  exact xl_match C.1 a2 b2 a1 b1 FX (fun p fd tr fm im => yl_match C.1 FY (fun _ to => ⟨rfl, rl_mk C⟩) (fun e to => absurd p (by omega))) (fun e fd tr fm im => yl_match C.1 FY (fun p to => absurd p (by omega)) (fun _ to => ⟨rfl, rl_mk C⟩))
theorem i_vc_assigned {k : Nat} {u : SX} {v : SY} (I : i_Rel k u v) (hk : k + 4 ≤ 2048) (v1 : Int32) : wpX_assigned (fun r u' => wpY_assigned (fun r' v' => r' = r ∧ i_Rel (k + 4) u' v') v v1) u v1 := by
  obtain ⟨fd, nm, ty, ga, xs, ys, pr, tr, fm, im, th, nn, to, T, G, X, Y, M, C, rfl, rfl⟩ := I
  rcases ne_no v1 with ⟨i, hi, rfl⟩ | ⟨nx, ny⟩
  · obtain ⟨a1, a2, a3⟩ := C.2.2 0 (by decide)
    obtain ⟨b1, b2, b3⟩ := C.2.2 1 (by decide)
    have FX : rl_X T G X Y nm (M 0) (M 1) 0 1 (rl_F T G X Y (th_H th) nn 0 1) := rl_FX (by decide) (by decide) C.2.1 a3 b3
    have FY : rl_Y T G X Y th nn 0 1 (rl_F T G X Y (th_H th) nn 0 1) := rl_FY (by decide) (by decide) (fun j _ => rfl)
    exact xl_assigned hi C.1 a2 b2 a1 b1 FX (fun c hc fd tr fm im => yl_assigned C.1 FY hi (fun d to hd => ⟨by rw [pf_uniq hd hc], rl_mk C⟩) (fun e to => absurd (pf_some hc) (by omega))) (fun e fd tr fm im => yl_assigned C.1 FY hi (fun d to hd => absurd (pf_some hd) (by omega)) (fun _ to => ⟨rfl, rl_mk C⟩))
  · unfold wpX_assigned wpY_assigned
    exact nx _ (br_t rfl (ny _ _ _ _ _ _ _ _ (br_t rfl ⟨rfl, rl_mk C⟩)))
theorem i_vc_matches {k : Nat} {u : SX} {v : SY} (I : i_Rel k u v) (hk : k + 4 ≤ 2048) : wpX_matches (fun r u' => wpY_matches (fun r' v' => r' = r ∧ i_Rel (k + 4) u' v') v) u := by
  obtain ⟨fd, nm, ty, ga, xs, ys, pr, tr, fm, im, th, nn, to, T, G, X, Y, M, C, rfl, rfl⟩ := I
  obtain ⟨a1, a2, a3⟩ := C.2.2 0 (by decide)
  obtain ⟨b1, b2, b3⟩ := C.2.2 1 (by decide)
  have FX : rl_X T G X Y nm (M 0) (M 1) 0 1 (rl_F T G X Y (th_H th) nn 0 1) := rl_FX (by decide) (by decide) C.2.1 a3 b3
  have FY : rl_Y T G X Y th nn 0 1 (rl_F T G X Y (th_H th) nn 0 1) := rl_FY (by decide) (by decide) (fun j _ => rfl)
  exact xl_matches C.1 a2 b2 a1 b1 FX (fun fd tr fm im => yl_matches C.1 FY (fun to => ⟨rfl, rl_mk C⟩))
theorem i_vc_candidates {k : Nat} {u : SX} {v : SY} (I : i_Rel k u v) (hk : k + 4 ≤ 2048) (v1 : Int32) : wpX_candidates (fun r u' => wpY_candidates (fun r' v' => r' = r ∧ i_Rel (k + 4) u' v') v v1) u v1 := by
  obtain ⟨fd, nm, ty, ga, xs, ys, pr, tr, fm, im, th, nn, to, T, G, X, Y, M, C, rfl, rfl⟩ := I
  rcases ne_no v1 with ⟨i, hi, rfl⟩ | ⟨nx, ny⟩
  · obtain ⟨a1, a2, a3⟩ := C.2.2 0 (by decide)
    obtain ⟨b1, b2, b3⟩ := C.2.2 1 (by decide)
    have FX : rl_X T G X Y nm (M 0) (M 1) 0 1 (rl_F T G X Y (th_H th) nn 0 1) := rl_FX (by decide) (by decide) C.2.1 a3 b3
    have FY : rl_Y T G X Y th nn 0 1 (rl_F T G X Y (th_H th) nn 0 1) := rl_FY (by decide) (by decide) (fun j _ => rfl)
    exact xl_cand hi C.1 a2 b2 a1 b1 FX (fun fd tr fm im => yl_cand C.1 FY hi (fun to => ⟨rfl, rl_mk C⟩))
  · unfold wpX_candidates
    refine nx _ (br_t rfl ⟨1, ?_⟩)
    exact br_f (by decide) (ny _ _ _ _ _ _ _ _ (br_t rfl ⟨rfl, rl_mk C⟩))
theorem i_vc_symmetries {k : Nat} {u : SX} {v : SY} (I : i_Rel k u v) (hk : k + 4 ≤ 2048) (v1 : Int32) : wpX_symmetries (fun r u' => wpY_symmetries (fun r' v' => r' = r ∧ i_Rel (k + 4) u' v') v v1) u v1 := by
  obtain ⟨fd, nm, ty, ga, xs, ys, pr, tr, fm, im, th, nn, to, T, G, X, Y, M, C, rfl, rfl⟩ := I
  rcases ci_no v1 with ⟨c, hc, rfl⟩ | ⟨nx, ny⟩
  · obtain ⟨a1, a2, a3⟩ := C.2.2 c hc
    have FX : rl_X T G X Y nm (M c) (M c) c c (rl_F T G X Y (th_H th) nn c c) := rl_FX hc hc C.2.1 a3 a3
    have FY : rl_Y T G X Y th nn c c (rl_F T G X Y (th_H th) nn c c) := rl_FY hc hc (fun j _ => rfl)
    exact xl_sym hc C.1 a2 a1 FX (fun fd tr fm im => yl_sym C.1 hc FY (fun to => ⟨rfl, rl_mk C⟩))
  · unfold wpX_symmetries
    refine nx _ (br_t rfl ⟨1, ?_⟩)
    refine br_f (by decide) (ny _ _ _ _ _ _ _ _ (br_t rfl ?_))
    unfold wY_symmetries_47
    exact ny _ _ _ _ _ _ _ _ (br_t rfl ⟨rfl, rl_mk C⟩)
theorem i_vc_exchangeable {k : Nat} {u : SX} {v : SY} (I : i_Rel k u v) (hk : k + 4 ≤ 2048) (v1 : Int32) (v2 : Int32) (v3 : Int32) : wpX_exchangeable (fun r u' => wpY_exchangeable (fun r' v' => r' = r ∧ i_Rel (k + 4) u' v') v v1 v2 v3) u v1 v2 v3 := by
  obtain ⟨fd, nm, ty, ga, xs, ys, pr, tr, fm, im, th, nn, to, T, G, X, Y, M, C, rfl, rfl⟩ := I
  rcases ci_no v1 with ⟨c, hc, rfl⟩ | ⟨nx, ny⟩
  · rcases ne_no v2 with ⟨i, hi, rfl⟩ | ⟨nx, ny⟩
    · rcases ne_no v3 with ⟨j, hj, rfl⟩ | ⟨nx, ny⟩
      · obtain ⟨a1, a2, a3⟩ := C.2.2 c hc
        have FX : rl_X T G X Y nm (M c) (M c) c c (rl_F T G X Y (th_H th) nn c c) := rl_FX hc hc C.2.1 a3 a3
        have FY : rl_Y T G X Y th nn c c (rl_F T G X Y (th_H th) nn c c) := rl_FY hc hc (fun j _ => rfl)
        exact xl_exch hc hi hj C.1 a2 a1 FX (fun p fd tr fm im => yl_exch C.1 hc hi hj FY (fun _ to => ⟨rfl, rl_mk C⟩) (fun n to => absurd p n)) (fun n fd tr fm im => yl_exch C.1 hc hi hj FY (fun p to => absurd p n) (fun _ to => ⟨rfl, rl_mk C⟩))
      · unfold wpX_exchangeable
        refine ci_X hc (br_f (by decide) (ne_X hi (br_f (by decide) (nx _ (br_t rfl ⟨1, ?_⟩)))))
        exact br_f (by decide) (ci_Y hc (br_f (by decide) (ne_Y hi (br_f (by decide) (ny _ _ _ _ _ _ _ _ (br_t rfl ⟨rfl, rfl, rl_mk C⟩))))))
    · unfold wpX_exchangeable
      refine ci_X hc (br_f (by decide) (nx _ (br_t rfl ⟨1, ?_⟩)))
      exact br_f (by decide) (ci_Y hc (br_f (by decide) (ny _ _ _ _ _ _ _ _ (br_t rfl ⟨rfl, rfl, rl_mk C⟩))))
  · unfold wpX_exchangeable
    refine nx _ (br_t rfl ⟨1, ?_⟩)
    exact br_f (by decide) (ny _ _ _ _ _ _ _ _ (br_t rfl ⟨rfl, rfl, rl_mk C⟩))
theorem i_vc_surplus {k : Nat} {u : SX} {v : SY} (I : i_Rel k u v) (hk : k + 4 ≤ 2048) : wpX_surplus (fun r u' => wpY_surplus (fun r' v' => r' = r ∧ i_Rel (k + 4) u' v') v) u := by
  obtain ⟨fd, nm, ty, ga, xs, ys, pr, tr, fm, im, th, nn, to, T, G, X, Y, M, C, rfl, rfl⟩ := I
  obtain ⟨a1, a2, a3⟩ := C.2.2 0 (by decide)
  obtain ⟨b1, b2, b3⟩ := C.2.2 1 (by decide)
  have FX : ∀ d, d < 7 → rl_X T G X Y nm (bs_clr (M 0) d) (M 1) 0 1 (rl_F T G X Y (fun j => th_H th j && !(j == d)) nn 0 1) := fun d hd => rl_FX (by decide) (by decide) C.2.1 (fun j hj => by
    rw [bs_clrT _ a2 d hd j hj, a3 j hj]
    simp) (fun j hj => by
    have q : (7 * 1 + j == d) = false := by rw [beq_eq_false_iff_ne]; omega
    rw [b3 j hj, q]
    simp)
  have FY : ∀ d, d < 7 → ∀ th' : Nat → Int32, (∀ j, j < 14 → th_H th' j = (th_H th j && !(j == d))) → rl_Y T G X Y th' nn 0 1 (rl_F T G X Y (fun j => th_H th j && !(j == d)) nn 0 1) := fun d hd th' h => rl_FY (by decide) (by decide) h
  refine xl_surp (H := th_H th) (FF := fun d => rl_F T G X Y (fun j => th_H th j && !(j == d)) nn 0 1) C.1 a2 b2 a1 b1 (fun d hd => by rw [a3 d hd]; simp) FX (fun fd tr fm im => ?_)
  refine yl_surp (H := th_H th) (FF := fun d => rl_F T G X Y (fun j => th_H th j && !(j == d)) nn 0 1) C.1 FY (fun j _ => rfl) (fun th' to hth => ⟨rfl, rl_mk ⟨C.1, C.2.1, fun c hc => ⟨(C.2.2 c hc).1, (C.2.2 c hc).2.1, fun d hd => ?_⟩⟩⟩)
  rw [hth _ (by omega)]
  exact (C.2.2 c hc).2.2 d hd
end
