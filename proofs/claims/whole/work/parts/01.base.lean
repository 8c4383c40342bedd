theorem pk_us {f : Nat → Int32} {k : Nat} {x : Int32} : upd f k x k = x := if_pos rfl
theorem pk_un {f : Nat → Int32} {k j : Nat} {x : Int32} (h : j ≠ k) : upd f k x j = f j := if_neg h
theorem pk_sub {a b : Nat} (h : b ≤ a) : nI a - nI b = nI (a - b) := by
  obtain ⟨c, rfl⟩ : ∃ c, a = c + b := ⟨a - b, by omega⟩
  rw [← nI_add, Int32.add_sub_cancel, Nat.add_sub_cancel]
theorem pk_m1 (n : Nat) : nI (n + 1) + (-1) = nI n := by
  rw [← nI_1, Int32.add_assoc, show (1 : Int32) + (-1) = 0 from rfl, Int32.add_zero]
theorem pk_mul (a b : Nat) : nI a * nI b = nI (a * b) := (Int32.ofNat_mul a b).symm
theorem pk_div {a d : Nat} (ha : a < 2 ^ 31) (h0 : 0 < d) (hd : d < 2 ^ 31) : nI a / nI d = nI (a / d) := by
  apply Int32.toInt_inj.mp
  rw [lg_idiv_nonneg (by rw [nI_toInt ha]; omega) (by rw [nI_toInt hd]; omega), nI_toInt ha, nI_toInt hd, nI_toInt (Nat.lt_of_le_of_lt (Nat.div_le_self a d) ha)]
  first | rfl | exact (Int.natCast_ediv _ _).symm
theorem pk_rem {a d : Nat} (ha : a < 2 ^ 31) (h0 : 0 < d) (hd : d < 2 ^ 31) : nI a - nI a / nI d * nI d = nI (a % d) := by
  rw [pk_div ha h0 hd, pk_mul, pk_sub (Nat.div_mul_le_self a d)]
  exact congrArg nI (by have := Nat.div_add_mod' a d; omega)
theorem pk_sub_toInt {a b : Nat} (ha : a < 2 ^ 30) (hb : b < 2 ^ 30) : (nI a - nI b).toInt = (a : Int) - b := by
  rw [Int32.toInt_sub, nI_toInt (by omega), nI_toInt (by omega)]
  exact Int.bmod_eq_of_le (by omega) (by omega)
theorem pk_sneg {a b : Nat} (hb : b < 2 ^ 30) (h : a < b) : nI a - nI b < 0 := by
  rw [Int32.lt_iff_toInt_lt, pk_sub_toInt (by omega) hb, show (0 : Int32).toInt = 0 from by decide]
  omega
theorem pk_le {x y : Int32} {A B : Prop} (a b : Nat) (f : a ≤ b → A) (g : b < a → B) (hx : x = nI a := by rfl) (hy : y = nI b := by rfl) (ha : a < 2 ^ 31 := by omega) (hb : b < 2 ^ 31 := by omega) : (x ≤ y → A) ∧ (¬ x ≤ y → B) := by
  subst hx hy
  rw [nI_leI ha hb]
  exact ⟨f, fun z => g (by omega)⟩
theorem pk_lt {x y : Int32} {A B : Prop} (a b : Nat) (f : a < b → A) (g : b ≤ a → B) (hx : x = nI a := by rfl) (hy : y = nI b := by rfl) (ha : a < 2 ^ 31 := by omega) (hb : b < 2 ^ 31 := by omega) : (x < y → A) ∧ (¬ x < y → B) := by
  subst hx hy
  rw [nI_ltI ha hb]
  exact ⟨f, fun z => g (by omega)⟩
theorem pk_eq {x y : Int32} {A B : Prop} (a b : Nat) (f : a = b → A) (g : a ≠ b → B) (hx : x = nI a := by rfl) (hy : y = nI b := by rfl) (ha : a < 2 ^ 31 := by omega) (hb : b < 2 ^ 31 := by omega) : (x = y → A) ∧ (¬ x = y → B) := by
  subst hx hy
  rw [nI_eq ha hb]
  exact ⟨f, g⟩
theorem pk_in {x : Int32} (n N : Nat) (h : n < N) (hx : x = nI n := by rfl) (hN : N < 2 ^ 31 := by omega) : vp_in x N := by
  subst hx
  exact vp_in_nI h hN
theorem pk_cl {x : Int32} (n : Nat) (hx : x = nI n := by rfl) (h : n < 2 ^ 31 := by omega) : x.toNatClampNeg = n := by
  subst hx
  exact nI_clamp h
theorem pk_vb (z : Int32) : vp_nar .byte z.toInt8.toInt32 = z.toInt8.toInt32 := by rw [vp_nar_byte]; simp
theorem bp_b (x : Int32) : x.toInt8.toInt32 &&& 255 = x &&& 255 := by
  apply Int32.toBitVec_inj.mp
  rw [Int32.toBitVec_and, Int32.toBitVec_and, Int8.toBitVec_toInt32, Int32.toBitVec_toInt8]
  apply BitVec.eq_of_getLsbD_eq
  intro i hi
  rw [BitVec.getLsbD_and, BitVec.getLsbD_and]
  have hm : ∀ i < 32, 8 ≤ i → (255 : Int32).toBitVec.getLsbD i = false := by decide
  rcases Nat.lt_or_ge i 8 with z | z
  · rw [BitVec.getLsbD_signExtend, BitVec.getLsbD_signExtend, if_pos z, if_pos hi]
    simp only [z, hi, decide_true, Bool.true_and]
  · rw [hm i hi z]; simp
/-! ===== the char cast and 65535 ===== -/
/-- a byte, as the class keeps it: signed, widened -/
def bq_B (x : Int32) : Prop := x.toInt8.toInt32 = x
theorem bq_B8 (x : Int32) : bq_B x.toInt8.toInt32 := by unfold bq_B; simp
theorem bq_nar {x : Int32} (h : bq_B x) : vp_nar .byte x = x := by rw [vp_nar_byte]; exact h
theorem bq_and8 (x : Int32) : (x &&& 255).toInt8 = x.toInt8 := by
  rw [Int32.toInt8_and]
  have h : (255 : Int32).toInt8 = -1 := by decide
  rw [h, Int8.and_neg_one]
theorem bq_inj {x y : Int32} (hx : bq_B x) (hy : bq_B y) (h : x &&& 255 = y &&& 255) : x = y := by
  have e := congrArg Int32.toInt8 h
  rw [bq_and8, bq_and8] at e
  have e2 := congrArg Int8.toInt32 e
  exact hx.symm.trans (e2.trans hy)
theorem bq_small : ∀ n, n < 128 → bq_B (nI n) := by
  unfold bq_B
  decide +kernel
/-- the reference's cells below n are the class's bytes, without their sign -/
def bq_By (n : Nat) (a b : Nat → Int32) : Prop := ∀ j, j < n → bq_B (a j) ∧ b j = a j &&& 255
theorem bq_By_up {n : Nat} {a b : Nat → Int32} {x y : Int32} (h : bq_By n a b) (hx : bq_B x) (hy : y = x &&& 255) : bq_By (n + 1) (upd a n x) (upd b n y) := by
  intro j hj
  by_cases e : j = n
  · subst e
    rw [pk_us, pk_us]
    exact ⟨hx, hy⟩
  · rw [pk_un e, pk_un e]
    exact h j (by omega)
/-- m pieces in the cells c, p cells long, that say the first q bytes of f -/
def bq_G (f c : Nat → Int32) : Nat → Nat → Nat → Prop
  | 0, p, q => p = 0 ∧ q = 0
  | m + 1, p, q => ∃ p' q', bq_G f c m p' q' ∧
      ((∃ n, 1 ≤ n ∧ n ≤ 48 ∧ p = p' + 1 + n ∧ q = q' + n ∧ c p' = nI n ∧ ∀ j, j < n → c (p' + 1 + j) = f (q' + j)) ∨
       (∃ n t, 3 ≤ n ∧ n ≤ 48 ∧ 1 ≤ t ∧ t ≤ q' ∧ p = p' + 2 ∧ q = q' + n ∧ c p' = nI (64 + n) ∧ c (p' + 1) = nI t ∧ ∀ j, j < n → f (q' + j) = f (q' + j - t)))
theorem bq_Gc {f c c' : Nat → Int32} : ∀ m p q, (∀ i, i < p → c' i = c i) → bq_G f c m p q → bq_G f c' m p q := by
  intro m
  induction m with
  | zero => intro p q _ h; exact h
  | succ m ih =>
    intro p q hc h
    obtain ⟨p', q', h, hh⟩ := h
    rcases hh with ⟨n, h1, h2, h3, h4, h5, h6⟩ | ⟨n, t, h1, h2, h3, h4, h5, h6, h7, h8, h9⟩
    · exact ⟨p', q', ih p' q' (fun i hi => hc i (by omega)) h, Or.inl ⟨n, h1, h2, h3, h4, (hc _ (by omega)).trans h5, fun j hj => (hc _ (by omega)).trans (h6 j hj)⟩⟩
    · exact ⟨p', q', ih p' q' (fun i hi => hc i (by omega)) h, Or.inr ⟨n, t, h1, h2, h3, h4, h5, h6, (hc _ (by omega)).trans h7, (hc _ (by omega)).trans h8, h9⟩⟩
/-- slot s holds the n bytes of w, squeezed -/
def bq_Blk (sq sl : Nat → Int32) (s n : Nat) (w : Nat → Int32) : Prop :=
  ∃ m e, e ≤ 49 ∧ sl s = nI e ∧ bq_G w (fun i => sq (49 * s + i)) m e n
theorem bq_BlkC {sq sl sq' sl' w : Nat → Int32} {s n : Nat} (h1 : ∀ i, i < 49 → sq' (49 * s + i) = sq (49 * s + i)) (h2 : sl' s = sl s) (h : bq_Blk sq sl s n w) : bq_Blk sq' sl' s n w := by
  obtain ⟨m, e, he, hl, hG⟩ := h
  exact ⟨m, e, he, h2.trans hl, bq_Gc m e n (fun i hi => h1 i (by omega)) hG⟩
/-- block b of the reference, n bytes of w, in slot s of the class -/
def bq_Bk (sq sl q ls : Nat → Int32) (s b : Nat) : Prop :=
  ∃ n w, n ≤ 48 ∧ ls b = nI n ∧ (∀ j, j < n → bq_B (w j) ∧ q (48 * b + j) = w j &&& 255) ∧ bq_Blk sq sl s n w
def i_Rel (_ : Nat) (u : SX) (v : SY) : Prop :=
  ∃ nd np no nb : Nat, nd ≤ 48 ∧ np ≤ 48 ∧ no < 4 ∧ nb ≤ 4 ∧ ∃ d p sq sl d' p' q ls : Nat → Int32,
    u = (nI nd, nI np, nI no, nI nb, d, p, sq, sl) ∧ v = (nI nd, nI np, nI nb, d', p', q, ls) ∧
    bq_By nd d d' ∧ bq_By np p p' ∧ ∀ b, b < nb → bq_Bk sq sl q ls ((no + b) % 4) b
theorem i_up {k : Nat} {u : SX} {v : SY} (h : i_Rel k u v) : i_Rel (k + 3) u v := h
theorem i_vc0 : wpX_init (fun u => wpY_init (fun v => i_Rel 0 u v)) :=
  ⟨0, 0, 0, 0, by decide, by decide, by decide, by decide, _, _, _, _, _, _, _, _, rfl, rfl, fun j hj => absurd hj (Nat.not_lt_zero j), fun j hj => absurd hj (Nat.not_lt_zero j), fun j hj => absurd hj (Nat.not_lt_zero j)⟩
