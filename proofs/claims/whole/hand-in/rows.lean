section
theorem pk_us {f : Nat → Int32} {k : Nat} {x : Int32} : upd f k x k = x := if_pos rfl
theorem pk_un {f : Nat → Int32} {k j : Nat} {x : Int32} (h : j ≠ k) : upd f k x j = f j := if_neg h
theorem pk_sub {a b : Nat} (h : b ≤ a) : nI a - nI b = nI (a - b) := by
  obtain ⟨c, rfl⟩ : ∃ c, a = c + b := ⟨a - b, by omega⟩
  rw [← nI_add, Int32.add_sub_cancel, Nat.add_sub_cancel]
theorem pk_m1 (n : Nat) : nI (n + 1) + (-1) = nI n := by
  rw [← nI_1, Int32.add_assoc, show (1 : Int32) + (-1) = 0 from rfl, Int32.add_zero]
theorem pk_mul (a b : Nat) : nI a * nI b = nI (a * b) := (Int32.ofNat_mul a b).symm
theorem pk_div {a d : Nat} (ha : a < 2 ^ 31) (h0 : 0 < d) (hd : d < 2 ^ 31) : nI a / nI d = nI (a / d) := by
  apply Int32.toInt_inj.mp
  rw [lg_idiv_nonneg (by rw [nI_toInt ha]; omega) (by rw [nI_toInt hd]; omega), nI_toInt ha, nI_toInt hd, nI_toInt (Nat.lt_of_le_of_lt (Nat.div_le_self a d) ha)]
  first | rfl | exact (Int.natCast_ediv _ _).symm
theorem pk_rem {a d : Nat} (ha : a < 2 ^ 31) (h0 : 0 < d) (hd : d < 2 ^ 31) : nI a - nI a / nI d * nI d = nI (a % d) := by
  rw [pk_div ha h0 hd, pk_mul, pk_sub (Nat.div_mul_le_self a d)]
  exact congrArg nI (by have := Nat.div_add_mod' a d; omega)
theorem pk_sub_toInt {a b : Nat} (ha : a < 2 ^ 30) (hb : b < 2 ^ 30) : (nI a - nI b).toInt = (a : Int) - b := by
  rw [Int32.toInt_sub, nI_toInt (by omega), nI_toInt (by omega)]
  exact Int.bmod_eq_of_le (by omega) (by omega)
theorem pk_sneg {a b : Nat} (hb : b < 2 ^ 30) (h : a < b) : nI a - nI b < 0 := by
  rw [Int32.lt_iff_toInt_lt, pk_sub_toInt (by omega) hb, show (0 : Int32).toInt = 0 from by decide]
  omega
theorem pk_le {x y : Int32} {A B : Prop} (a b : Nat) (f : a ≤ b → A) (g : b < a → B) (hx : x = nI a := by rfl) (hy : y = nI b := by rfl) (ha : a < 2 ^ 31 := by omega) (hb : b < 2 ^ 31 := by omega) : (x ≤ y → A) ∧ (¬ x ≤ y → B) := by
  subst hx hy
  rw [nI_leI ha hb]
  exact ⟨f, fun z => g (by omega)⟩
theorem pk_lt {x y : Int32} {A B : Prop} (a b : Nat) (f : a < b → A) (g : b ≤ a → B) (hx : x = nI a := by rfl) (hy : y = nI b := by rfl) (ha : a < 2 ^ 31 := by omega) (hb : b < 2 ^ 31 := by omega) : (x < y → A) ∧ (¬ x < y → B) := by
  subst hx hy
  rw [nI_ltI ha hb]
  exact ⟨f, fun z => g (by omega)⟩
theorem pk_eq {x y : Int32} {A B : Prop} (a b : Nat) (f : a = b → A) (g : a ≠ b → B) (hx : x = nI a := by rfl) (hy : y = nI b := by rfl) (ha : a < 2 ^ 31 := by omega) (hb : b < 2 ^ 31 := by omega) : (x = y → A) ∧ (¬ x = y → B) := by
  subst hx hy
  rw [nI_eq ha hb]
  exact ⟨f, g⟩
theorem pk_in {x : Int32} (n N : Nat) (h : n < N) (hx : x = nI n := by rfl) (hN : N < 2 ^ 31 := by omega) : vp_in x N := by
  subst hx
  exact vp_in_nI h hN
theorem pk_cl {x : Int32} (n : Nat) (hx : x = nI n := by rfl) (h : n < 2 ^ 31 := by omega) : x.toNatClampNeg = n := by
  subst hx
  exact nI_clamp h
theorem pk_vb (z : Int32) : vp_nar .byte z.toInt8.toInt32 = z.toInt8.toInt32 := by rw [vp_nar_byte]; simp
theorem bp_b (x : Int32) : x.toInt8.toInt32 &&& 255 = x &&& 255 := by
  apply Int32.toBitVec_inj.mp
  rw [Int32.toBitVec_and, Int32.toBitVec_and, Int8.toBitVec_toInt32, Int32.toBitVec_toInt8]
  apply BitVec.eq_of_getLsbD_eq
  intro i hi
  rw [BitVec.getLsbD_and, BitVec.getLsbD_and]
  have hm : ∀ i < 32, 8 ≤ i → (255 : Int32).toBitVec.getLsbD i = false := by decide
  rcases Nat.lt_or_ge i 8 with z | z
  · rw [BitVec.getLsbD_signExtend, BitVec.getLsbD_signExtend, if_pos z, if_pos hi]
    simp only [z, hi, decide_true, Bool.true_and]
  · rw [hm i hi z]; simp
/-! ===== the char cast and 65535 ===== -/
/-- a byte, as the class keeps it: signed, widened -/
def bq_B (x : Int32) : Prop := x.toInt8.toInt32 = x
theorem bq_B8 (x : Int32) : bq_B x.toInt8.toInt32 := by unfold bq_B; simp
theorem bq_nar {x : Int32} (h : bq_B x) : vp_nar .byte x = x := by rw [vp_nar_byte]; exact h
theorem bq_and8 (x : Int32) : (x &&& 255).toInt8 = x.toInt8 := by
  rw [Int32.toInt8_and]
  have h : (255 : Int32).toInt8 = -1 := by decide
  rw [h, Int8.and_neg_one]
theorem bq_inj {x y : Int32} (hx : bq_B x) (hy : bq_B y) (h : x &&& 255 = y &&& 255) : x = y := by
  have e := congrArg Int32.toInt8 h
  rw [bq_and8, bq_and8] at e
  have e2 := congrArg Int8.toInt32 e
  exact hx.symm.trans (e2.trans hy)
theorem bq_small : ∀ n, n < 128 → bq_B (nI n) := by
  unfold bq_B
  decide +kernel
/-- the reference's cells below n are the class's bytes, without their sign -/
def bq_By (n : Nat) (a b : Nat → Int32) : Prop := ∀ j, j < n → bq_B (a j) ∧ b j = a j &&& 255
theorem bq_By_up {n : Nat} {a b : Nat → Int32} {x y : Int32} (h : bq_By n a b) (hx : bq_B x) (hy : y = x &&& 255) : bq_By (n + 1) (upd a n x) (upd b n y) := by
  intro j hj
  by_cases e : j = n
  · subst e
    rw [pk_us, pk_us]
    exact ⟨hx, hy⟩
  · rw [pk_un e, pk_un e]
    exact h j (by omega)
/-- m pieces in the cells c, p cells long, that say the first q bytes of f -/
def bq_G (f c : Nat → Int32) : Nat → Nat → Nat → Prop
  | 0, p, q => p = 0 ∧ q = 0
  | m + 1, p, q => ∃ p' q', bq_G f c m p' q' ∧
      ((∃ n, 1 ≤ n ∧ n ≤ 48 ∧ p = p' + 1 + n ∧ q = q' + n ∧ c p' = nI n ∧ ∀ j, j < n → c (p' + 1 + j) = f (q' + j)) ∨
       (∃ n t, 3 ≤ n ∧ n ≤ 48 ∧ 1 ≤ t ∧ t ≤ q' ∧ p = p' + 2 ∧ q = q' + n ∧ c p' = nI (64 + n) ∧ c (p' + 1) = nI t ∧ ∀ j, j < n → f (q' + j) = f (q' + j - t)))
theorem bq_Gc {f c c' : Nat → Int32} : ∀ m p q, (∀ i, i < p → c' i = c i) → bq_G f c m p q → bq_G f c' m p q := by
  intro m
  induction m with
  | zero => intro p q _ h; exact h
  | succ m ih =>
    intro p q hc h
    obtain ⟨p', q', h, hh⟩ := h
    rcases hh with ⟨n, h1, h2, h3, h4, h5, h6⟩ | ⟨n, t, h1, h2, h3, h4, h5, h6, h7, h8, h9⟩
    · exact ⟨p', q', ih p' q' (fun i hi => hc i (by omega)) h, Or.inl ⟨n, h1, h2, h3, h4, (hc _ (by omega)).trans h5, fun j hj => (hc _ (by omega)).trans (h6 j hj)⟩⟩
    · exact ⟨p', q', ih p' q' (fun i hi => hc i (by omega)) h, Or.inr ⟨n, t, h1, h2, h3, h4, h5, h6, (hc _ (by omega)).trans h7, (hc _ (by omega)).trans h8, h9⟩⟩
/-- slot s holds the n bytes of w, squeezed -/
def bq_Blk (sq sl : Nat → Int32) (s n : Nat) (w : Nat → Int32) : Prop :=
  ∃ m e, e ≤ 49 ∧ sl s = nI e ∧ bq_G w (fun i => sq (49 * s + i)) m e n
theorem bq_BlkC {sq sl sq' sl' w : Nat → Int32} {s n : Nat} (h1 : ∀ i, i < 49 → sq' (49 * s + i) = sq (49 * s + i)) (h2 : sl' s = sl s) (h : bq_Blk sq sl s n w) : bq_Blk sq' sl' s n w := by
  obtain ⟨m, e, he, hl, hG⟩ := h
  exact ⟨m, e, he, h2.trans hl, bq_Gc m e n (fun i hi => h1 i (by omega)) hG⟩
/-- block b of the reference, n bytes of w, in slot s of the class -/
def bq_Bk (sq sl q ls : Nat → Int32) (s b : Nat) : Prop :=
  ∃ n w, n ≤ 48 ∧ ls b = nI n ∧ (∀ j, j < n → bq_B (w j) ∧ q (48 * b + j) = w j &&& 255) ∧ bq_Blk sq sl s n w
def i_Rel (_ : Nat) (u : SX) (v : SY) : Prop :=
  ∃ nd np no nb : Nat, nd ≤ 48 ∧ np ≤ 48 ∧ no < 4 ∧ nb ≤ 4 ∧ ∃ d p sq sl d' p' q ls : Nat → Int32,
    u = (nI nd, nI np, nI no, nI nb, d, p, sq, sl) ∧ v = (nI nd, nI np, nI nb, d', p', q, ls) ∧
    bq_By nd d d' ∧ bq_By np p p' ∧ ∀ b, b < nb → bq_Bk sq sl q ls ((no + b) % 4) b
theorem i_up {k : Nat} {u : SX} {v : SY} (h : i_Rel k u v) : i_Rel (k + 3) u v := h
theorem i_vc0 : wpX_init (fun u => wpY_init (fun v => i_Rel 0 u v)) :=
  ⟨0, 0, 0, 0, by decide, by decide, by decide, by decide, _, _, _, _, _, _, _, _, rfl, rfl, fun j hj => absurd hj (Nat.not_lt_zero j), fun j hj => absurd hj (Nat.not_lt_zero j), fun j hj => absurd hj (Nat.not_lt_zero j)⟩
end
section
/-- matchLength at place i and distance t answers n, and n bytes there are alike -/
def bq_M (u : SX) (d : Nat → Int32) (nd i t n : Nat) : Prop :=
  i + n ≤ nd ∧ (∀ j, j < n → d (i + j) = d (i + j - t)) ∧ ∀ post : Int32 → Prop, post (nI n) → wpX_matchLength post u (nI i) (nI t)
theorem bq_ml1 (d p sq sl : Nat → Int32) (pl os bc : Int32) (nd i t : Nat) (hnd : nd ≤ 48) (h1 : 1 ≤ t) (ht : t ≤ i) :
    ∀ r x, x + r = nd → i ≤ x → ∃ n, x ≤ i + n ∧ i + n ≤ nd ∧ (∀ j, x ≤ i + j → j < n → d (i + j) = d (i + j - t)) ∧
      ∀ post : Int32 → Prop, post (nI n) → wX_matchLength_2 post (nI i) (nI t) (nI nd) pl os bc d p sq sl (r + 1) (nI x) := by
  intro r
  induction r with
  | zero =>
    intro x hx hi
    refine ⟨nd - i, by omega, by omega, fun j h2 h3 => by omega, fun post hp => br_t (nI_le (by omega) (by omega)) ?_⟩
    rw [pk_sub (by omega)]
    exact hp
  | succ r ih =>
    intro x hx hi
    have hb : ¬ nI nd ≤ nI x := nI_ge (by omega) (by omega)
    have hin : vp_in (nI x) 48 := vp_in_nI (by omega) (by omega)
    have hs : nI x - nI t = nI (x - t) := pk_sub (by omega)
    have hin2 : vp_in (nI x - nI t) 48 := by rw [hs]; exact vp_in_nI (by omega) (by omega)
    by_cases e : d x = d (x - t)
    · obtain ⟨n, a1, a2, a3, a4⟩ := ih (x + 1) (by omega) (by omega)
      refine ⟨n, by omega, a2, fun j h2 h3 => ?_, fun post hp => br_f hb ⟨hin, hin2, br_t ?_ (nm_r (nI_1 x) (a4 post hp))⟩⟩
      · by_cases hj : x + 1 ≤ i + j
        · exact a3 j hj h3
        · have hx2 : i + j = x := by omega
          rw [hx2]
          exact e
      · rw [hs, nI_clamp (by omega), nI_clamp (by omega)]
        exact e
    · refine ⟨x - i, by omega, by omega, fun j h2 h3 => by omega, fun post hp => br_f hb ⟨hin, hin2, br_f ?_ ?_⟩⟩
      · rw [hs, nI_clamp (by omega), nI_clamp (by omega)]
        exact e
      · rw [pk_sub hi]
        exact hp
theorem bq_ml (d p sq sl : Nat → Int32) (pl os bc : Int32) (nd i t : Nat) (hnd : nd ≤ 48) (hi : i ≤ nd) (h1 : 1 ≤ t) (ht : t ≤ i) :
    ∃ n, bq_M (nI nd, pl, os, bc, d, p, sq, sl) d nd i t n := by
  obtain ⟨n, a1, a2, a3, a4⟩ := bq_ml1 d p sq sl pl os bc nd i t hnd h1 ht (nd - i) i (by omega) (Nat.le_refl i)
  exact ⟨n, a2, fun j hj => a3 j (by omega) hj, fun post hp => ⟨_, a4 post hp⟩⟩
/-- what bestDistance may answer -/
def bq_D (u : SX) (d : Nat → Int32) (nd i : Nat) (r : Int32) : Prop :=
  r = 0 ∨ ∃ t n, r = nI t ∧ 1 ≤ t ∧ t ≤ i ∧ 3 ≤ n ∧ bq_M u d nd i t n
theorem bq_bd1 (d p sq sl : Nat → Int32) (pl os bc : Int32) (nd i : Nat) (hnd : nd ≤ 48) (hi : i ≤ nd) :
    ∀ k x l (x2 : Int32), x + k = i + 1 → 1 ≤ x → 2 ≤ l → l ≤ 48 → bq_D (nI nd, pl, os, bc, d, p, sq, sl) d nd i x2 →
      ∃ r, bq_D (nI nd, pl, os, bc, d, p, sq, sl) d nd i r ∧
        ∀ post : Int32 → Prop, post r → wX_bestDistance_7 post (nI i) (nI nd) pl os bc d p sq sl (k + 1) x2 (nI l) (nI x) := by
  intro k
  induction k with
  | zero =>
    intro x l x2 hx h1 h2 h3 hD
    exact ⟨x2, hD, fun post hp => br_t (nI_lt (by omega) (by omega)) hp⟩
  | succ k ih =>
    intro x l x2 hx h1 h2 h3 hD
    have hb : ¬ nI i < nI x := nI_nlt (by omega) (by omega)
    obtain ⟨n, hM⟩ := bq_ml d p sq sl pl os bc nd i x hnd hi h1 (by omega)
    have hn : i + n ≤ nd := hM.1
    by_cases hl : n ≤ l
    · obtain ⟨r, a, b⟩ := ih (x + 1) l x2 (by omega) (by omega) h2 h3 hD
      refine ⟨r, a, fun post hp => br_f hb (hM.2.2 _ ?_)⟩
      exact br_t (nI_le hl (by omega)) (nm_r (nI_1 x) (b post hp))
    · obtain ⟨r, a, b⟩ := ih (x + 1) n (nI x) (by omega) (by omega) (by omega) (by omega) (Or.inr ⟨x, n, rfl, h1, by omega, by omega, hM⟩)
      refine ⟨r, a, fun post hp => br_f hb (hM.2.2 _ ?_)⟩
      exact br_f (nI_ge (by omega) (by omega)) (nm_r (nI_1 x) (b post hp))
theorem bq_bd (d p sq sl : Nat → Int32) (pl os bc : Int32) (nd i : Nat) (hnd : nd ≤ 48) (hi : i ≤ nd) :
    ∃ r, bq_D (nI nd, pl, os, bc, d, p, sq, sl) d nd i r ∧
      ∀ post : Int32 → Prop, post r → wpX_bestDistance post (nI nd, pl, os, bc, d, p, sq, sl) (nI i) := by
  obtain ⟨r, a, b⟩ := bq_bd1 d p sq sl pl os bc nd i hnd hi i 1 2 0 (by omega) (by omega) (by omega) (by omega) (Or.inl rfl)
  exact ⟨r, a, fun post hp => ⟨_, b post hp⟩⟩
theorem bq_keep (post : SX → Prop) (dl pl os bc : Int32) (d p sq sl : Nat → Int32) (s e : Nat) (x : Int32) (hs : s < 4) (he : e < 49) (hl : sl s = nI e)
    (h : post (dl, pl, os, bc, d, p, upd sq (49 * s + e) x.toInt8.toInt32, upd sl s (nI (e + 1)))) :
    wpX_keep post (dl, pl, os, bc, d, p, sq, sl) (nI s) x := by
  have hin : vp_in (nI s) 4 := vp_in_nI hs (by omega)
  have hc : (nI s).toNatClampNeg = s := nI_clamp (by omega)
  have hx : nI s * 49 + nI e = nI (49 * s + e) := by
    rw [show (49 : Int32) = nI 49 from rfl, pk_mul, nI_add, Nat.mul_comm]
  refine ⟨hin, nm_r (e' := nI e) (by rw [hc, hl]) (br_f (nI_ge (b := 49) he (by decide)) ⟨?_, nm_r (e' := upd sq (49 * s + e) x.toInt8.toInt32) ?_ ⟨hin, nm_r (e' := upd sl s (nI (e + 1))) ?_ h⟩⟩)⟩
  · rw [hx]
    exact vp_in_nI (by omega) (by omega)
  · rw [hx, nI_clamp (by omega), pk_vb]
  · rw [hc, nI_1]
/-- only cells of slot s from its place e on have changed, and its length is e' -/
def bq_X (s : Nat) (sq sl sq' sl' : Nat → Int32) (e e' : Nat) : Prop :=
  (∀ i, (i < 49 * s + e ∨ 49 * s + 49 ≤ i) → sq' i = sq i) ∧ (∀ t, t ≠ s → sl' t = sl t) ∧ sl' s = nI e'
theorem bq_Xt {s e e' e'' : Nat} {a la b lb c lc : Nat → Int32} (h1 : bq_X s a la b lb e e') (h2 : bq_X s b lb c lc e' e'') (he : e ≤ e') : bq_X s a la c lc e e'' :=
  ⟨fun i hi => (h2.1 i (by omega)).trans (h1.1 i hi), fun t ht => (h2.2.1 t ht).trans (h1.2.1 t ht), h2.2.2⟩
theorem bq_X0 {s e e' : Nat} {a la b lb : Nat → Int32} (h : bq_X s a la b lb e e') : bq_X s a la b lb 0 e' :=
  ⟨fun i hi => h.1 i (by omega), h.2⟩
theorem bq_Xr {s e : Nat} {a la : Nat → Int32} (h : la s = nI e) : bq_X s a la a la e e := ⟨fun _ _ => rfl, fun _ _ => rfl, h⟩
theorem bq_Xk (s e : Nat) (sq sl : Nat → Int32) (x : Int32) (he : e < 49) : bq_X s sq sl (upd sq (49 * s + e) x) (upd sl s (nI (e + 1))) e (e + 1) :=
  ⟨fun i hi => pk_un (by omega), fun t ht => pk_un ht, pk_us⟩
theorem bq_kp1 (post : SX → Prop) (dl pl os bc : Int32) (d p : Nat → Int32) (s b : Nat) (hs : s < 4) (hb : b ≤ 48) (hB : ∀ j, j < b → bq_B (d j)) :
    ∀ r a e sq sl, a + r = b → e + r ≤ 49 → sl s = nI e →
      (∀ sq' sl', bq_X s sq sl sq' sl' e (e + r) → (∀ j, j < r → sq' (49 * s + (e + j)) = d (a + j)) → post (dl, pl, os, bc, d, p, sq', sl')) →
      wX_keepPlain_16 post (nI s) (nI b) (r + 1) (nI a) dl pl os bc d p sq sl := by
  intro r
  induction r with
  | zero =>
    intro a e sq sl ha he hl h
    exact br_t (nI_le (by omega) (by omega)) (h sq sl (bq_Xr hl) (fun j hj => by omega))
  | succ r ih =>
    intro a e sq sl ha he hl h
    have hd : (d (nI a).toNatClampNeg).toInt8.toInt32 = d a := by
      rw [nI_clamp (by omega)]
      exact hB a (by omega)
    refine br_f (nI_ge (by omega) (by omega)) ⟨vp_in_nI (by omega) (by omega), ?_⟩
    refine bq_keep _ dl pl os bc d p sq sl s e _ hs (by omega) hl ?_
    dsimp only
    rw [hd]
    refine nm_r (nI_1 a) (ih (a + 1) (e + 1) _ _ (by omega) (by omega) pk_us ?_)
    intro sq' sl' hX hj
    have hX2 := bq_Xt (bq_Xk s e sq sl (d a) (by omega)) hX (by omega)
    refine h sq' sl' (by rw [show e + (r + 1) = e + 1 + r by omega]; exact hX2) ?_
    intro j hj2
    by_cases hz : j = 0
    · subst hz
      exact (hX.1 (49 * s + (e + 0)) (Or.inl (by omega))).trans pk_us
    · have h3 := hj (j - 1) (by omega)
      rw [show e + 1 + (j - 1) = e + j by omega, show a + 1 + (j - 1) = a + j by omega] at h3
      exact h3
theorem bq_kp (post : SX → Prop) (dl pl os bc : Int32) (d p sq sl : Nat → Int32) (s a b e m : Nat) (hs : s < 4) (hb : b ≤ 48) (hab : a ≤ b) (hea : e ≤ a)
    (hB : ∀ j, j < b → bq_B (d j)) (hl : sl s = nI e) (hG : bq_G d (fun i => sq (49 * s + i)) m e a)
    (h : ∀ m' e' sq' sl', e' ≤ b + 1 → bq_X s sq sl sq' sl' 0 e' → bq_G d (fun i => sq' (49 * s + i)) m' e' b → post (dl, pl, os, bc, d, p, sq', sl')) :
    wpX_keepPlain post (dl, pl, os, bc, d, p, sq, sl) (nI s) (nI a) (nI b) := by
  by_cases hlt : a < b
  · refine br_f (nI_ge hlt (by omega)) ?_
    rw [pk_sub hab]
    refine bq_keep _ dl pl os bc d p sq sl s e _ hs (by omega) hl ?_
    dsimp only
    have hv : (nI (b - a)).toInt8.toInt32 = nI (b - a) := bq_small _ (by omega)
    rw [hv]
    refine ⟨_, bq_kp1 post dl pl os bc d p s b hs hb hB (b - a) a (e + 1) _ _ (by omega) (by omega) pk_us ?_⟩
    intro sq' sl' hX hj
    have hX2 := bq_Xt (bq_Xk s e sq sl (nI (b - a)) (by omega)) hX (by omega)
    refine h (m + 1) (e + 1 + (b - a)) sq' sl' (by omega) (bq_X0 hX2) ⟨e, a, bq_Gc m e a (fun i hi => hX2.1 _ (by omega)) hG, Or.inl ⟨b - a, by omega, by omega, rfl, by omega, ?_, hj⟩⟩
    exact (hX.1 (49 * s + e) (Or.inl (by omega))).trans pk_us
  · have hq : a = b := by omega
    subst hq
    exact br_t (nI_le (by omega) (by omega)) ⟨1, br_t (nI_le (by omega) (by omega)) (h m e sq sl (by omega) (bq_X0 (bq_Xr hl)) hG)⟩
theorem bq_kc (post : SX → Prop) (dl pl os bc : Int32) (d p sq sl : Nat → Int32) (s q e m n t : Nat) (hs : s < 4) (he : e ≤ q + 1) (hn : 3 ≤ n) (hq : q + n ≤ 48)
    (h1 : 1 ≤ t) (ht : t ≤ q) (hm : ∀ j, j < n → d (q + j) = d (q + j - t)) (hl : sl s = nI e) (hG : bq_G d (fun i => sq (49 * s + i)) m e q)
    (h : ∀ m' e' sq' sl', e' ≤ q + n → bq_X s sq sl sq' sl' 0 e' → bq_G d (fun i => sq' (49 * s + i)) m' e' (q + n) → post (dl, pl, os, bc, d, p, sq', sl')) :
    wpX_keepCopy post (dl, pl, os, bc, d, p, sq, sl) (nI s) (nI t) (nI n) := by
  unfold wpX_keepCopy
  dsimp only
  have hv : (64 + nI n).toInt8.toInt32 = nI (64 + n) := by
    rw [show (64 : Int32) = nI 64 from rfl, nI_add]
    exact bq_small _ (by omega)
  have hv2 : (nI t).toInt8.toInt32 = nI t := bq_small _ (by omega)
  refine bq_keep _ dl pl os bc d p sq sl s e _ hs (by omega) hl ?_
  dsimp only
  rw [hv]
  refine bq_keep _ dl pl os bc d p _ _ s (e + 1) _ hs (by omega) pk_us ?_
  dsimp only
  rw [hv2]
  have hX1 := bq_Xk s e sq sl (nI (64 + n)) (by omega)
  have hX2 := bq_Xk s (e + 1) (upd sq (49 * s + e) (nI (64 + n))) (upd sl s (nI (e + 1))) (nI t) (by omega)
  have hX := bq_Xt hX1 hX2 (by omega)
  refine h (m + 1) (e + 1 + 1) _ _ (by omega) (bq_X0 hX) ⟨e, q, bq_Gc m e q (fun i hi => hX.1 _ (by omega)) hG, Or.inr ⟨n, t, hn, by omega, h1, ht, rfl, rfl, ?_, ?_, hm⟩⟩
  · exact (hX2.1 (49 * s + e) (Or.inl (by omega))).trans pk_us
  · exact pk_us
end
section
theorem bq_sd1 (post : SX → Prop) (pl os bc : Int32) (d p : Nat → Int32) (s nd : Nat) (hs : s < 4) (hnd : nd ≤ 48) (hB : ∀ j, j < nd → bq_B (d j)) :
    ∀ r i q m e sq sl, i + r = nd → q ≤ nd → e ≤ q → sl s = nI e → bq_G d (fun i => sq (49 * s + i)) m e q →
      (∀ m' e' sq' sl', e' ≤ 49 → bq_X s sq sl sq' sl' 0 e' → bq_G d (fun i => sq' (49 * s + i)) m' e' nd → post (nI nd, pl, os, bc, d, p, sq', sl')) →
      wX_squeezeDraft_11 post (nI s) (r + 1) (nI q) (nI i) (nI nd) pl os bc d p sq sl := by
  intro r
  induction r with
  | zero =>
    intro i q m e sq sl hi hq he hl hG h
    refine br_t (nI_le (by omega) (by omega)) ?_
    refine bq_kp _ (nI nd) pl os bc d p sq sl s q nd e m hs hnd hq he hB hl hG ?_
    intro m' e' sq' sl' he' hX hG'
    exact h m' e' sq' sl' (by omega) hX hG'
  | succ r ih =>
    intro i q m e sq sl hi hq he hl hG h
    have h0 : wX_squeezeDraft_33 post (wX_squeezeDraft_11 post (nI s) (r + 1)) (nI s) (nI q) (nI i) 0 (nI nd) pl os bc d p sq sl :=
      br_t (by decide) (nm_r (nI_1 i) (ih (i + 1) q m e sq sl (by omega) hq he hl hG h))
    refine br_f (nI_ge (by omega) (by omega)) ?_
    by_cases hqi : q ≤ i
    · refine br_t (nI_le hqi (by omega)) ?_
      obtain ⟨r0, hD, hw⟩ := bq_bd d p sq sl pl os bc nd i hnd (by omega)
      refine hw _ ?_
      rcases hD with hz | ⟨t, n, hr, h1, ht, hn, hM⟩
      · rw [hz]
        exact h0
      · rw [hr]
        have hin : i + n ≤ nd := hM.1
        refine br_f (nI_nle (by omega) (by omega)) ?_
        refine hM.2.2 _ ?_
        refine bq_kp _ (nI nd) pl os bc d p sq sl s q i e m hs (by omega) hqi he (fun j hj => hB j (by omega)) hl hG ?_
        intro m1 e1 sq1 sl1 he1 hX1 hG1
        dsimp only
        refine bq_kc _ (nI nd) pl os bc d p sq1 sl1 s i e1 m1 n t hs he1 hn (by omega) h1 ht hM.2.1 hX1.2.2 hG1 ?_
        intro m2 e2 sq2 sl2 he2 hX2 hG2
        dsimp only
        refine nm_r (nI_add i n) (nm_r (nI_1 i) (ih (i + 1) (i + n) m2 e2 sq2 sl2 (by omega) hin he2 hX2.2.2 hG2 ?_))
        intro m3 e3 sq3 sl3 he3 hX3 hG3
        have hY : bq_X s sq sl sq2 sl2 0 e2 := ⟨fun k hk => (hX2.1 k hk).trans (hX1.1 k hk), fun k hk => (hX2.2.1 k hk).trans (hX1.2.1 k hk), hX2.2.2⟩
        exact h m3 e3 sq3 sl3 he3 ⟨fun k hk => (hX3.1 k hk).trans (hY.1 k hk), fun k hk => (hX3.2.1 k hk).trans (hY.2.1 k hk), hX3.2.2⟩ hG3
    · exact br_f (nI_ge (by omega) (by omega)) h0
theorem bq_sd (post : SX → Prop) (pl os bc : Int32) (d p sq sl : Nat → Int32) (s nd : Nat) (hs : s < 4) (hnd : nd ≤ 48) (hB : ∀ j, j < nd → bq_B (d j))
    (h : ∀ sq' sl', (∀ i, (i < 49 * s ∨ 49 * s + 49 ≤ i) → sq' i = sq i) → (∀ t, t ≠ s → sl' t = sl t) → bq_Blk sq' sl' s nd d → post (nI nd, pl, os, bc, d, p, sq', sl')) :
    wpX_squeezeDraft post (nI nd, pl, os, bc, d, p, sq, sl) (nI s) := by
  refine ⟨vp_in_nI hs (by omega), nm_r (e' := upd sl s 0) (by rw [nI_clamp (by omega)]) ⟨_, bq_sd1 post pl os bc d p s nd hs hnd hB nd 0 0 0 0 sq (upd sl s 0) (by omega) (by omega) (by omega) pk_us ⟨rfl, rfl⟩ ?_⟩⟩
  intro m' e' sq' sl' he hX hG
  exact h sq' sl' (fun i hi => hX.1 i (by omega)) (fun t ht => (hX.2.1 t ht).trans (pk_un ht)) ⟨m', e', he, hX.2.2, hG⟩
end
section
theorem bq_ap (post : SX → Prop) (dl os bc : Int32) (d pg sq sl : Nat → Int32) (q : Nat) (x : Int32) (hq : q < 48) (hx : bq_B x)
    (h : post (dl, nI (q + 1), os, bc, d, upd pg q x, sq, sl)) : wpX_addToPage post (dl, nI q, os, bc, d, pg, sq, sl) x :=
  br_f (nI_ge (b := 48) hq (by decide)) ⟨vp_in_nI hq (by decide), nm_r (e' := upd pg q x) (by rw [nI_clamp (by omega), bq_nar hx]) (nm_r (nI_1 q) h)⟩
theorem bq_ext {q : Nat} {pg w : Nat → Int32} (h : ∀ j, j < q → pg j = w j) : ∀ j, j < q + 1 → upd pg q (w q) j = w j := by
  intro j hj
  by_cases e : j = q
  · subst e
    exact pk_us
  · rw [pk_un e]
    exact h j (by omega)
theorem bq_cp1 (post : SX → Prop) (dl os bc : Int32) (d sq sl w : Nat → Int32) (t k : Nat) (h1 : 1 ≤ t) (hk : k ≤ 48) :
    ∀ r i q pg, i + r = k → t ≤ q → q + r ≤ 48 → (∀ j, j < q + r → bq_B (w j)) → (∀ j, j < r → w (q + j) = w (q + j - t)) → (∀ j, j < q → pg j = w j) →
      (∀ pg', (∀ j, j < q + r → pg' j = w j) → post (dl, nI (q + r), os, bc, d, pg', sq, sl)) →
      wX_copyInPage_16 post (nI t) (nI k) (r + 1) (nI i) dl (nI q) os bc d pg sq sl := by
  intro r
  induction r with
  | zero =>
    intro i q pg hi ht hq hB hw hp h
    exact br_t (nI_le (by omega) (by omega)) (h pg hp)
  | succ r ih =>
    intro i q pg hi ht hq hB hw hp h
    have hs : nI q - nI t = nI (q - t) := pk_sub ht
    have hv : pg (nI q - nI t).toNatClampNeg = w q := by
      rw [hs, nI_clamp (by omega), hp _ (by omega)]
      exact (hw 0 (by omega)).symm
    refine br_f (nI_ge (by omega) (by omega)) ⟨by rw [hs]; exact vp_in_nI (by omega) (by omega), ?_⟩
    rw [hv]
    refine bq_ap _ dl os bc d pg sq sl q (w q) (by omega) (hB q (by omega)) ?_
    refine nm_r (nI_1 i) (ih (i + 1) (q + 1) (upd pg q (w q)) (by omega) (by omega) (by omega) (fun j hj => hB j (by omega)) ?_ (bq_ext hp) ?_)
    · intro j hj
      have h3 := hw (j + 1) (by omega)
      rw [show q + (j + 1) = q + 1 + j by omega] at h3
      exact h3
    · intro pg' hp'
      rw [show q + 1 + r = q + (r + 1) by omega] at hp' ⊢
      exact h pg' hp'
theorem bq_cp (post : SX → Prop) (dl os bc : Int32) (d pg sq sl w : Nat → Int32) (t k q : Nat) (h1 : 1 ≤ t) (ht : t ≤ q) (hq : q + k ≤ 48) (hB : ∀ j, j < q + k → bq_B (w j))
    (hw : ∀ j, j < k → w (q + j) = w (q + j - t)) (hp : ∀ j, j < q → pg j = w j)
    (h : ∀ pg', (∀ j, j < q + k → pg' j = w j) → post (dl, nI (q + k), os, bc, d, pg', sq, sl)) :
    wpX_copyInPage post (dl, nI q, os, bc, d, pg, sq, sl) (nI t) (nI k) :=
  br_f (nI_nlt (b := 1) h1 (by omega)) (br_t (nI_le ht (by omega)) ⟨_, bq_cp1 post dl os bc d sq sl w t k h1 (by omega) k 0 q pg (by omega) ht hq hB hw hp h⟩)
theorem bq_pl1 (post : SX → Prop) (dl os bc : Int32) (d sq sl w : Nat → Int32) (s E n : Nat) (hs : s < 4) (hE : E ≤ 49) :
    ∀ r a q pg, a + r ≤ E → q + r ≤ 48 → (∀ j, j < q + r → bq_B (w j)) → (∀ j, j < r → sq (49 * s + (a + j)) = w (q + j)) → (∀ j, j < q → pg j = w j) →
      (∀ pg', (∀ j, j < q + r → pg' j = w j) → wX_unsqueezeToPage_28 post (nI (49 * s + E)) n 0 0 (nI (49 * s + (a + r))) dl (nI (q + r)) os bc d pg' sq sl) →
      wX_unsqueezeToPage_28 post (nI (49 * s + E)) (n + r) (nI r) 0 (nI (49 * s + a)) dl (nI q) os bc d pg sq sl := by
  intro r
  induction r with
  | zero =>
    intro a q pg ha hq hB hc hp h
    exact h pg hp
  | succ r ih =>
    intro a q pg ha hq hB hc hp h
    have hv : sq (nI (49 * s + a)).toNatClampNeg = w q := by
      rw [nI_clamp (by omega)]
      exact hc 0 (by omega)
    refine br_f (nI_ge (by omega) (by omega)) ⟨vp_in_nI (by omega) (by omega), nm_r hv (br_f (nI_nle (by omega) (by omega)) ?_)⟩
    refine bq_ap _ dl os bc d pg sq sl q (w q) (by omega) (hB q (by omega)) ?_
    refine nm_r (pk_m1 r) (nm_r (e' := nI (49 * s + (a + 1))) (nI_1 (49 * s + a)) (ih (a + 1) (q + 1) (upd pg q (w q)) (by omega) (by omega) (fun j hj => hB j (by omega)) ?_ (bq_ext hp) ?_))
    · intro j hj
      have h3 := hc (j + 1) (by omega)
      rw [show q + (j + 1) = q + 1 + j by omega, show a + (j + 1) = a + 1 + j by omega] at h3
      exact h3
    · intro pg' hp'
      rw [show q + 1 + r = q + (r + 1) by omega] at hp' ⊢
      rw [show a + 1 + r = a + (r + 1) by omega]
      exact h pg' hp'
theorem bq_dec (post : SX → Prop) (dl os bc : Int32) (d sq sl w : Nat → Int32) (s E L : Nat) (hs : s < 4) (hE : E ≤ 49) (hL : L ≤ 48) (hB : ∀ j, j < L → bq_B (w j)) :
    ∀ m P Q n, bq_G w (fun i => sq (49 * s + i)) m P Q → P ≤ E → Q ≤ L →
      (∀ pg', (∀ j, j < Q → pg' j = w j) → wX_unsqueezeToPage_28 post (nI (49 * s + E)) n 0 0 (nI (49 * s + P)) dl (nI Q) os bc d pg' sq sl) →
      ∀ pg, wX_unsqueezeToPage_28 post (nI (49 * s + E)) (n + P) 0 0 (nI (49 * s)) dl 0 os bc d pg sq sl := by
  intro m
  induction m with
  | zero =>
    intro P Q n hG hP hQ h pg
    obtain ⟨e1, e2⟩ := hG
    subst e1 e2
    exact h pg (fun j hj => absurd hj (Nat.not_lt_zero j))
  | succ m ih =>
    intro P Q n hG hP hQ h pg
    obtain ⟨P', Q', hG, hh⟩ := hG
    rcases hh with ⟨k, h1, h2, h3, h4, h5, h6⟩ | ⟨k, t, h1, h2, h3, h4, h5, h6, h7, h8, h9⟩
    · subst h3 h4
      rw [show n + (P' + 1 + k) = n + k + 1 + P' by omega]
      refine ih P' Q' (n + k + 1) hG (by omega) (by omega) ?_ pg
      intro pg' hp
      have hv : sq (nI (49 * s + P')).toNatClampNeg = nI k := by
        rw [nI_clamp (by omega)]
        exact h5
      refine br_f (nI_ge (by omega) (by omega)) ⟨vp_in_nI (by omega) (by omega), nm_r hv (br_t (by decide) (br_t (by decide) (br_f (nI_ge (b := 64) (by omega) (by decide)) (nm_r (e' := nI (49 * s + (P' + 1))) (nI_1 (49 * s + P')) ?_))))⟩
      exact bq_pl1 post dl os bc d sq sl w s E n hs hE k (P' + 1) Q' pg' (by omega) (by omega) (fun j hj => hB j (by omega)) h6 hp h
    · subst h5 h6
      rw [show n + (P' + 2) = n + 1 + 1 + P' by omega]
      refine ih P' Q' (n + 1 + 1) hG (by omega) (by omega) ?_ pg
      intro pg' hp
      have hv : sq (nI (49 * s + P')).toNatClampNeg = nI (64 + k) := by
        rw [nI_clamp (by omega)]
        exact h7
      have hv2 : sq (nI (49 * s + (P' + 1))).toNatClampNeg = nI t := by
        rw [nI_clamp (by omega)]
        exact h8
      have hk : nI (64 + k) - 64 = nI k := by
        rw [show (64 : Int32) = nI 64 from rfl, pk_sub (by omega), Nat.add_sub_cancel_left]
      refine br_f (nI_ge (by omega) (by omega)) ⟨vp_in_nI (by omega) (by omega), nm_r hv (br_t (by decide) (br_t (by decide) (br_t (nI_le (a := 64) (by omega) (by omega)) (nm_r hk (nm_r (e' := nI (49 * s + (P' + 1))) (nI_1 (49 * s + P')) ?_)))))⟩
      refine br_f (nI_ge (by omega) (by omega)) ⟨vp_in_nI (by omega) (by omega), nm_r hv2 (br_t (by decide) (br_f (nI_nle (by omega) (by omega)) ?_))⟩
      refine bq_cp _ dl os bc d pg' sq sl w t k Q' h3 h4 (by omega) (fun j hj => hB j (by omega)) h9 hp ?_
      intro pg2 hp2
      exact nm_r (e' := nI (49 * s + (P' + 2))) (nI_1 (49 * s + (P' + 1))) (h pg2 hp2)
theorem bq_un (post : SX → Prop) (dl pl os bc : Int32) (d pg sq sl w : Nat → Int32) (s L : Nat) (hs : s < 4) (hL : L ≤ 48) (hB : ∀ j, j < L → bq_B (w j)) (hb : bq_Blk sq sl s L w)
    (h : ∀ pg', (∀ j, j < L → pg' j = w j) → post (dl, nI L, os, bc, d, pg', sq, sl)) :
    wpX_unsqueezeToPage post (dl, pl, os, bc, d, pg, sq, sl) (nI s) := by
  obtain ⟨m, E, hE, hl, hG⟩ := hb
  have e1 : nI s * 49 = nI (49 * s) := by
    rw [show (49 : Int32) = nI 49 from rfl, pk_mul, Nat.mul_comm]
  have e2 : nI (49 * s) + sl (nI s).toNatClampNeg = nI (49 * s + E) := by
    rw [nI_clamp (by omega), hl, nI_add]
  refine nm_r e1 ⟨vp_in_nI hs (by decide), nm_r e2 ⟨1 + E, bq_dec post dl os bc d sq sl w s E L hs hE hL hB m E L 1 hG (Nat.le_refl E) (Nat.le_refl L) ?_ pg⟩⟩
  intro pg' hp
  exact br_t (nI_le (Nat.le_refl _) (by omega)) (h pg' hp)
end
section
theorem bq_ys (post : Int32 → SY → Prop) (pg : Int32) (d p ls : Nat → Int32) (nd nb : Nat) (hnd : nd ≤ 48) (hnb : nb < 4) :
    ∀ r i q, i + r = nd → (∀ q', (∀ j, i ≤ j → j < nd → q' (48 * nb + j) = d j) → (∀ k, (k < 48 * nb + i ∨ 48 * nb + nd ≤ k) → q' k = q k) →
        post (nI (nb + 1)) (nI nd, pg, nI (nb + 1), d, p, q', upd ls nb (nI nd))) →
      wY_send_12 post (nI nd) pg (nI nb) (r + 1) (nI i) d p q ls := by
  intro r
  induction r with
  | zero =>
    intro i q hi h
    refine br_t (nI_le (by omega) (by omega)) ⟨vp_in_nI hnb (by decide), nm_r (e' := upd ls nb (nI nd)) (by rw [nI_clamp (by omega)]) (nm_r (nI_1 nb) (h q (fun j h1 h2 => by omega) (fun k _ => rfl)))⟩
  | succ r ih =>
    intro i q hi h
    have hx : 48 * nI nb + nI i = nI (48 * nb + i) := by
      rw [show (48 : Int32) = nI 48 from rfl, pk_mul, nI_add]
    refine br_f (nI_ge (by omega) (by omega)) ⟨vp_in_nI (by omega) (by omega), by rw [hx]; exact vp_in_nI (by omega) (by omega), nm_r (e' := upd q (48 * nb + i) (d i)) (by rw [hx, nI_clamp (by omega), nI_clamp (by omega)]) (nm_r (nI_1 i) (ih (i + 1) _ (by omega) ?_))⟩
    intro q' h1 h2
    refine h q' ?_ ?_
    · intro j hj hj2
      by_cases e : j = i
      · subst e
        exact (h2 _ (by omega)).trans pk_us
      · exact h1 j (by omega) hj2
    · intro k hk
      exact (h2 k (by omega)).trans (pk_un (by omega))
theorem bq_y83 (post : Int32 → SY → Prop) (J : Int32 → (Nat → Int32) → (Nat → Int32) → (Nat → Int32) → (Nat → Int32) → Prop) (dr pg bl : Int32) (d p ls : Nat → Int32) (x : Nat) (hx : x < 3) :
    ∀ r i q, i + r = 48 → (∀ q', (∀ j, i ≤ j → j < 48 → q' (48 * x + j) = q (48 * (x + 1) + j)) → (∀ k, (k < 48 * x + i ∨ 48 * (x + 1) ≤ k) → q' k = q k) → J (nI (x + 1)) d p q' ls) →
      wY_receive_83 post J (nI x) dr pg bl (r + 1) (nI i) d p q ls := by
  intro r
  induction r with
  | zero =>
    intro i q hi h
    exact br_t (nI_le (a := 48) (by omega) (by omega)) (nm_r (nI_1 x) (h q (fun j h1 h2 => by omega) (fun k _ => rfl)))
  | succ r ih =>
    intro i q hi h
    have e1 : 48 * (nI x + 1) + nI i = nI (48 * (x + 1) + i) := by
      rw [show (48 : Int32) = nI 48 from rfl, nI_1, pk_mul, nI_add]
    have e2 : 48 * nI x + nI i = nI (48 * x + i) := by
      rw [show (48 : Int32) = nI 48 from rfl, pk_mul, nI_add]
    refine br_f (nI_ge (b := 48) (by omega) (by decide)) ⟨by rw [e1]; exact vp_in_nI (by omega) (by omega), by rw [e2]; exact vp_in_nI (by omega) (by omega), nm_r (e' := upd q (48 * x + i) (q (48 * (x + 1) + i))) (by rw [e1, e2, nI_clamp (by omega), nI_clamp (by omega)]) (nm_r (nI_1 i) (ih (i + 1) _ (by omega) ?_))⟩
    intro q' h1 h2
    refine h q' ?_ ?_
    · intro j hj hj2
      by_cases e : j = i
      · subst e
        exact (h2 _ (by omega)).trans pk_us
      · exact (h1 j (by omega) hj2).trans (pk_un (by omega))
    · intro k hk
      exact (h2 k (by omega)).trans (pk_un (by omega))
theorem bq_y59 (post : Int32 → SY → Prop) (dr pg : Int32) (d p : Nat → Int32) (nb : Nat) (hnb : nb < 4) :
    ∀ r x q ls, x + r = nb → (∀ q' ls', (∀ b, x ≤ b → b < nb → ls' b = ls (b + 1) ∧ ∀ j, j < 48 → q' (48 * b + j) = q (48 * (b + 1) + j)) →
        (∀ b, b < x → ls' b = ls b) → (∀ k, k < 48 * x → q' k = q k) → post pg (dr, pg, nI nb, d, p, q', ls')) →
      wY_receive_59 post dr pg (nI nb) (r + 1) (nI x) d p q ls := by
  intro r
  induction r with
  | zero =>
    intro x q ls hx h
    exact br_t (nI_le (by omega) (by omega)) (h q ls (fun b h1 h2 => by omega) (fun b _ => rfl) (fun k _ => rfl))
  | succ r ih =>
    intro x q ls hx h
    refine br_f (nI_ge (by omega) (by omega)) ⟨by rw [nI_1]; exact vp_in_nI (by omega) (by omega), vp_in_nI (by omega) (by omega), nm_r (e' := upd ls x (ls (x + 1))) (by rw [nI_1, nI_clamp (by omega), nI_clamp (by omega)]) ⟨_, bq_y83 post _ dr pg (nI nb) d p _ x (by omega) 48 0 q rfl ?_⟩⟩
    intro q1 g1 g2
    refine ih (x + 1) q1 _ (by omega) ?_
    intro q' ls' h1 h2 h3
    refine h q' ls' ?_ ?_ ?_
    · intro b hb hb2
      by_cases e : b = x
      · subst e
        refine ⟨(h2 b (by omega)).trans pk_us, fun j hj => ?_⟩
        exact (h3 _ (by omega)).trans (g1 j (by omega) hj)
      · obtain ⟨a1, a2⟩ := h1 b (by omega) hb2
        refine ⟨a1.trans (pk_un (by omega)), fun j hj => ?_⟩
        exact (a2 j hj).trans (g2 _ (by omega))
    · intro b hb
      exact (h2 b (by omega)).trans (pk_un (by omega))
    · intro k hk
      exact (h3 k (by omega)).trans (g2 k (by omega))
theorem bq_y21 (post : Int32 → SY → Prop) (dr : Int32) (d q ls : Nat → Int32) (L nb : Nat) (hL : L ≤ 48) (hnb : nb < 4) :
    ∀ r i p, i + r = L → (∀ p' q' ls', (∀ j, i ≤ j → j < L → p' j = q j) → (∀ j, j < i → p' j = p j) →
        (∀ b, b < nb → ls' b = ls (b + 1) ∧ ∀ j, j < 48 → q' (48 * b + j) = q (48 * (b + 1) + j)) → post (nI L) (dr, nI L, nI nb, d, p', q', ls')) →
      wY_receive_21 post dr (nI L) (nI (nb + 1)) (r + 1) (nI i) d p q ls := by
  intro r
  induction r with
  | zero =>
    intro i p hi h
    refine br_t (nI_le (by omega) (by omega)) (nm_r (nI_pred nb) ⟨_, bq_y59 post dr (nI L) d p nb hnb nb 0 q ls (by omega) ?_⟩)
    intro q' ls' h1 h2 h3
    exact h p q' ls' (fun j h1 h2 => by omega) (fun j _ => rfl) (fun b hb => h1 b (by omega) hb)
  | succ r ih =>
    intro i p hi h
    refine br_f (nI_ge (by omega) (by omega)) ⟨vp_in_nI (by omega) (by omega), vp_in_nI (by omega) (by omega), nm_r (e' := upd p i (q i)) (by rw [nI_clamp (by omega)]) (nm_r (nI_1 i) (ih (i + 1) _ (by omega) ?_))⟩
    intro p' q' ls' h1 h2 h3
    refine h p' q' ls' ?_ ?_ h3
    · intro j hj hj2
      by_cases e : j = i
      · subst e
        exact (h2 _ (by omega)).trans pk_us
      · exact h1 j (by omega) hj2
    · intro j hj
      exact (h2 j (by omega)).trans (pk_un (by omega))
theorem bq_rep (pl os bc bl : Int32) (p sq sl p' q ls : Nat → Int32) (t k : Nat) (h1 : 1 ≤ t) (hk : k ≤ 48) :
    ∀ r i n d d', i + r = k → t ≤ n → n + r ≤ 48 → bq_By n d d' → ∃ e e', bq_By (n + r) e e' ∧
      (∀ post : Int32 → SX → Prop, post (nI (n + r)) (nI (n + r), pl, os, bc, e, p, sq, sl) → wX_repeat_35 post (nI t) (nI k) pl os bc (r + 1) (nI i) (nI n) d p sq sl) ∧
      (∀ post : Int32 → SY → Prop, post (nI (n + r)) (nI (n + r), pl, bl, e', p', q, ls) → wY_repeat_33 post (nI t) (nI k) pl bl (r + 1) (nI i) (nI n) d' p' q ls) := by
  intro r
  induction r with
  | zero =>
    intro i n d d' hi ht hn hd
    exact ⟨d, d', hd, fun post hp => br_t (nI_le (by omega) (by omega)) hp, fun post hp => br_t (nI_le (by omega) (by omega)) hp⟩
  | succ r ih =>
    intro i n d d' hi ht hn hd
    have hs : nI n - nI t = nI (n - t) := pk_sub ht
    obtain ⟨hB, hv⟩ := hd (n - t) (by omega)
    obtain ⟨e, e', a1, a2, a3⟩ := ih (i + 1) (n + 1) (upd d n (d (n - t))) (upd d' n (d' (n - t))) (by omega) (by omega) (by omega) (bq_By_up hd hB hv)
    rw [show n + 1 + r = n + (r + 1) by omega] at a1 a2 a3
    refine ⟨e, e', a1, fun post hp => ?_, fun post hp => ?_⟩
    · exact br_f (nI_ge (by omega) (by omega)) ⟨by rw [hs]; exact vp_in_nI (by omega) (by omega), vp_in_nI (by omega) (by omega), nm_r (e' := upd d n (d (n - t))) (by rw [hs, nI_clamp (by omega), nI_clamp (by omega), bq_nar hB]) (nm_r (nI_1 n) (nm_r (nI_1 i) (a2 post hp)))⟩
    · exact br_f (nI_ge (by omega) (by omega)) ⟨by rw [hs]; exact vp_in_nI (by omega) (by omega), vp_in_nI (by omega) (by omega), nm_r (e' := upd d' n (d' (n - t))) (by rw [hs, nI_clamp (by omega), nI_clamp (by omega)]) (nm_r (nI_1 n) (nm_r (nI_1 i) (a3 post hp)))⟩
theorem bq_ed (dl os bc dr bl : Int32) (p sq sl p' q ls : Nat → Int32) (np : Nat) (hnp : np ≤ 48) (hP : bq_By np p p') :
    ∀ r i d d', i + r = np → bq_By i d d' → ∃ e e', bq_By np e e' ∧
      (∀ post : SX → Prop, post (nI np, nI np, os, bc, e, p, sq, sl) → wX_edit_2 post dl (nI np) os bc (r + 1) (nI i) d p sq sl) ∧
      (∀ post : SY → Prop, post (dr, nI np, bl, e', p', q, ls) → wY_edit_10 post dr (nI np) bl (r + 1) (nI i) d' p' q ls) := by
  intro r
  induction r with
  | zero =>
    intro i d d' hi hd
    have e : i = np := by omega
    subst e
    exact ⟨d, d', hd, fun post hp => br_t (nI_le (by omega) (by omega)) hp, fun post hp => br_t (nI_le (by omega) (by omega)) hp⟩
  | succ r ih =>
    intro i d d' hi hd
    obtain ⟨hB, hv⟩ := hP i (by omega)
    obtain ⟨e, e', a1, a2, a3⟩ := ih (i + 1) (upd d i (p i)) (upd d' i (p' i)) (by omega) (bq_By_up hd hB hv)
    have hin : vp_in (nI i) 48 := vp_in_nI (by omega) (by omega)
    refine ⟨e, e', a1, fun post hp => ?_, fun post hp => ?_⟩
    · exact br_f (nI_ge (by omega) (by omega)) ⟨hin, hin, nm_r (e' := upd d i (p i)) (by rw [nI_clamp (by omega), bq_nar hB]) (nm_r (nI_1 i) (a2 post hp))⟩
    · exact br_f (nI_ge (by omega) (by omega)) ⟨hin, hin, nm_r (e' := upd d' i (p' i)) (by rw [nI_clamp (by omega)]) (nm_r (nI_1 i) (a3 post hp))⟩
theorem bq_fi (dl os bc dr bl : Int32) (d p sq sl d' p' q ls : Nat → Int32) (np : Nat) (hnp : np ≤ 48) (hP : bq_By np p p') (v x2 : Int32) :
    ∀ r i, i + r = np → (∀ j, i ≤ j → j < np → ¬ nI j < x2) → ∃ a : Int32,
      (∀ post : Int32 → Prop, post a → wX_find_18 post v.toInt8.toInt32 dl (nI np) os bc d p sq sl (r + 1) (nI i)) ∧
      (∀ post : Int32 → Prop, post a → wY_find_2 post v x2 dr (nI np) bl d' p' q ls (r + 1) (nI i)) := by
  intro r
  induction r with
  | zero =>
    intro i hi hj
    exact ⟨-1, fun post hp => br_t (nI_le (by omega) (by omega)) hp, fun post hp => br_t (nI_le (by omega) (by omega)) hp⟩
  | succ r ih =>
    intro i hi hj
    have hb : ¬ nI np ≤ nI i := nI_ge (by omega) (by omega)
    have hin : vp_in (nI i) 48 := vp_in_nI (by omega) (by omega)
    have hx : ¬ nI i < x2 := hj i (Nat.le_refl i) (by omega)
    have hc : (nI i).toNatClampNeg = i := nI_clamp (by omega)
    obtain ⟨hB, hv⟩ := hP i (by omega)
    by_cases e : p i = v.toInt8.toInt32
    · have e2 : p' i = v &&& 255 := by rw [hv, e, bp_b]
      exact ⟨nI i, fun post hp => br_f hb ⟨hin, br_t (by rw [hc]; exact e) hp⟩, fun post hp => br_f hb (br_f hx ⟨hin, br_t (by rw [hc]; exact e2) hp⟩)⟩
    · have e2 : ¬ p' i = v &&& 255 := by
        intro z
        rw [hv, ← bp_b v] at z
        exact e (bq_inj hB (bq_B8 v) z)
      obtain ⟨a, a1, a2⟩ := ih (i + 1) (by omega) (fun j h1 h2 => hj j (by omega) h2)
      exact ⟨a, fun post hp => br_f hb ⟨hin, br_f (by rw [hc]; exact e) (nm_r (nI_1 i) (a1 post hp))⟩, fun post hp => br_f hb (br_f hx ⟨hin, br_f (by rw [hc]; exact e2) (nm_r (nI_1 i) (a2 post hp))⟩)⟩
theorem bq_sk (dr bl : Int32) (d' p' q ls : Nat → Int32) (np f n : Nat) (hnp : np ≤ 48) (hf : f < 2 ^ 31) (v : Int32) (post : Int32 → Prop) :
    ∀ r i, i + r ≤ np → i + r ≤ f → wY_find_2 post v (nI f) dr (nI np) bl d' p' q ls n (nI (i + r)) → wY_find_2 post v (nI f) dr (nI np) bl d' p' q ls (n + r) (nI i) := by
  intro r
  induction r with
  | zero =>
    intro i _ _ h
    exact h
  | succ r ih =>
    intro i h1 h2 h
    refine br_f (nI_ge (by omega) (by omega)) (br_t (nI_lt (by omega) hf) (nm_r (nI_1 i) (ih (i + 1) (by omega) (by omega) ?_)))
    rw [show i + 1 + r = i + (r + 1) by omega]
    exact h
end
section
theorem i_vc_put {k : Nat} {u : SX} {v : SY} (I : i_Rel k u v) (hk : k + 3 ≤ 1536) (v1 : Int32) : wpX_put (fun r u' => wpY_put (fun r' v' => r' = r ∧ i_Rel (k + 3) u' v') v v1) u v1 := by
  have J := I
  obtain ⟨nd, np, no, nb, hd, hp, ho, hb, d, p, sq, sl, d', p', q, ls, rfl, rfl, hD, hP, hQ⟩ := I
  by_cases h : nd < 48
  · have hne : ¬ nI nd = 48 := fun z => absurd ((nI_eq (b := 48) (by omega) (by decide)).mp z) (by omega)
    refine br_t (nI_lt (b := 48) h (by decide)) ⟨vp_in_nI h (by decide), nm_r (e' := upd d nd v1.toInt8.toInt32) (by rw [nI_clamp (by omega), pk_vb]) (nm_r (nI_1 nd) ?_)⟩
    refine br_f hne ⟨vp_in_nI h (by decide), nm_r (e' := upd d' nd (v1 &&& 255)) (by rw [nI_clamp (by omega)]) (nm_r (nI_1 nd) ⟨rfl, ?_⟩)⟩
    exact ⟨nd + 1, np, no, nb, h, hp, ho, hb, _, _, _, _, _, _, _, _, rfl, rfl, bq_By_up hD (bq_B8 v1) (bp_b v1).symm, hP, hQ⟩
  · have e : nd = 48 := by omega
    subst e
    exact br_f (nI_nlt (b := 48) (by omega) (by decide)) (br_t rfl ⟨rfl, J⟩)
theorem i_vc_repeat {k : Nat} {u : SX} {v : SY} (I : i_Rel k u v) (hk : k + 3 ≤ 1536) (v1 : Int32) (v2 : Int32) : wpX_repeat (fun r u' => wpY_repeat (fun r' v' => r' = r ∧ i_Rel (k + 3) u' v') v v1 v2) u v1 v2 := by
  have J := I
  obtain ⟨nd, np, no, nb, hd, hp, ho, hb, d, p, sq, sl, d', p', q, ls, rfl, rfl, hD, hP, hQ⟩ := I
  by_cases z1 : v1 < 1
  · exact br_t z1 (br_t z1 ⟨rfl, J⟩)
  by_cases z2 : v1 ≤ nI nd
  · have y2 : ¬ nI nd < v1 := Int32.not_lt.mpr z2
    by_cases z3 : v2 < 1
    · exact br_f z1 (br_t z2 (br_t z3 (br_f z1 (br_f y2 (br_t z3 ⟨rfl, J⟩)))))
    by_cases z4 : v2 ≤ 48 - nI nd
    · obtain ⟨t, ht, rfl⟩ := nI_of (x := v1) (fun z => z1 (Int32.lt_trans z (by decide)))
      obtain ⟨c, hc, rfl⟩ := nI_of (x := v2) (fun z => z3 (Int32.lt_trans z (by decide)))
      have t1 : 1 ≤ t := Nat.le_of_not_lt (fun z => z1 (nI_lt (b := 1) z (by decide)))
      have c1 : 1 ≤ c := Nat.le_of_not_lt (fun z => z3 (nI_lt (b := 1) z (by decide)))
      have t2 : t ≤ nd := (nI_leI ht (by omega)).mp z2
      have e48 : (48 : Int32) - nI nd = nI (48 - nd) := pk_sub (a := 48) hd
      have c2 : c ≤ 48 - nd := (nI_leI hc (by omega)).mp (by rw [← e48]; exact z4)
      obtain ⟨e, e', a1, a2, a3⟩ := bq_rep (nI np) (nI no) (nI nb) (nI nb) p sq sl p' q ls t c t1 (by omega) c 0 nd d d' (by omega) t2 (by omega) hD
      refine br_f z1 (br_t z2 (br_f z3 (br_t z4 ⟨_, a2 _ ?_⟩)))
      refine br_f z1 (br_f y2 (br_f z3 (br_t z4 ⟨_, a3 _ ⟨rfl, ?_⟩⟩)))
      exact ⟨nd + c, np, no, nb, by omega, hp, ho, hb, _, _, _, _, _, _, _, _, rfl, rfl, a1, hP, hQ⟩
    · exact br_f z1 (br_t z2 (br_f z3 (br_f z4 (br_f z1 (br_f y2 (br_f z3 (br_f z4 ⟨rfl, J⟩)))))))
  · exact br_f z1 (br_f z2 (br_f z1 (br_t (Int32.not_le.mp z2) ⟨rfl, J⟩)))
theorem i_vc_erase {k : Nat} {u : SX} {v : SY} (I : i_Rel k u v) (hk : k + 3 ≤ 1536) : wpX_erase (fun u' => wpY_erase (fun v' => i_Rel (k + 3) u' v') v) u := by
  obtain ⟨nd, np, no, nb, hd, hp, ho, hb, d, p, sq, sl, d', p', q, ls, rfl, rfl, hD, hP, hQ⟩ := I
  exact ⟨0, np, no, nb, by omega, hp, ho, hb, d, p, sq, sl, d', p', q, ls, rfl, rfl, fun j hj => absurd hj (Nat.not_lt_zero j), hP, hQ⟩
theorem i_vc_send {k : Nat} {u : SX} {v : SY} (I : i_Rel k u v) (hk : k + 3 ≤ 1536) : wpX_send (fun r u' => wpY_send (fun r' v' => r' = r ∧ i_Rel (k + 3) u' v') v) u := by
  have J := I
  obtain ⟨nd, np, no, nb, hd, hp, ho, hb, d, p, sq, sl, d', p', q, ls, rfl, rfl, hD, hP, hQ⟩ := I
  by_cases h : nb < 4
  · have hne : ¬ nI nb = 4 := fun z => absurd ((nI_eq (b := 4) (by omega) (by decide)).mp z) (by omega)
    have hsl : nI no + nI nb - (nI no + nI nb) / 4 * 4 = nI ((no + nb) % 4) := by
      rw [nI_add]
      exact pk_rem (d := 4) (by omega) (by decide) (by decide)
    refine br_t (nI_lt (b := 4) h (by decide)) ⟨by decide, nm_r hsl ?_⟩
    refine bq_sd _ (nI np) (nI no) (nI nb) d p sq sl ((no + nb) % 4) nd (Nat.mod_lt _ (by decide)) hd (fun j hj => (hD j hj).1) ?_
    intro sq' sl' h1 h2 h3
    refine nm_r (nI_1 nb) ?_
    refine br_f hne ⟨_, bq_ys _ (nI np) d' p' ls nd nb hd h nd 0 q (by omega) ?_⟩
    intro q' g1 g2
    refine ⟨rfl, nd, np, no, nb + 1, hd, hp, ho, h, d, p, sq', sl', d', p', q', _, rfl, rfl, hD, hP, ?_⟩
    intro b hb2
    by_cases e : b = nb
    · subst e
      exact ⟨nd, d, hd, pk_us, fun j hj => ⟨(hD j hj).1, (g1 j (by omega) hj).trans (hD j hj).2⟩, h3⟩
    · obtain ⟨n, w, a1, a2, a3, a4⟩ := hQ b (by omega)
      have hs : (no + b) % 4 ≠ (no + nb) % 4 := by omega
      exact ⟨n, w, a1, (pk_un e).trans a2, fun j hj => ⟨(a3 j hj).1, (g2 _ (by omega)).trans (a3 j hj).2⟩, bq_BlkC (fun i hi => h1 _ (by omega)) (h2 _ hs) a4⟩
  · have e : nb = 4 := by omega
    subst e
    exact br_f (nI_nlt (b := 4) (by omega) (by decide)) (br_t rfl ⟨rfl, J⟩)
theorem i_vc_receive {k : Nat} {u : SX} {v : SY} (I : i_Rel k u v) (hk : k + 3 ≤ 1536) : wpX_receive (fun r u' => wpY_receive (fun r' v' => r' = r ∧ i_Rel (k + 3) u' v') v) u := by
  have J := I
  obtain ⟨nd, np, no, nb, hd, hp, ho, hb, d, p, sq, sl, d', p', q, ls, rfl, rfl, hD, hP, hQ⟩ := I
  by_cases hz : nb = 0
  · subst hz
    exact br_f (nI_ge (b := 1) (by omega) (by decide)) (br_t rfl ⟨rfl, J⟩)
  · obtain ⟨c, rfl⟩ : ∃ c, nb = c + 1 := ⟨nb - 1, by omega⟩
    obtain ⟨n, w, a1, a2, a3, a4⟩ := hQ 0 (by omega)
    rw [show (no + 0) % 4 = no by omega] at a4
    have hsl : nI no + 1 - (nI no + 1) / 4 * 4 = nI ((no + 1) % 4) := by
      rw [nI_1]
      exact pk_rem (d := 4) (by omega) (by decide) (by decide)
    refine br_t (nI_le (a := 1) (by omega) (by omega)) ?_
    refine bq_un _ (nI nd) (nI np) (nI no) (nI (c + 1)) d p sq sl w no n ho a1 (fun j hj => (a3 j hj).1) a4 ?_
    intro pg hpg
    refine ⟨by decide, nm_r hsl (nm_r (nI_pred c) ?_)⟩
    refine br_f (nI_ne0 (by omega) (by omega)) (nm_r a2 ⟨_, bq_y21 _ (nI nd) d' q ls n c a1 (by omega) n 0 p' (by omega) ?_⟩)
    intro p2 q2 ls2 g1 g2 g3
    refine ⟨rfl, nd, n, (no + 1) % 4, c, hd, a1, Nat.mod_lt _ (by decide), by omega, d, pg, sq, sl, d', p2, q2, ls2, rfl, rfl, hD, ?_, ?_⟩
    · intro j hj
      have h3 := a3 j hj
      rw [show 48 * 0 + j = j by omega] at h3
      rw [hpg j hj, g1 j (by omega) hj]
      exact h3
    · intro b hb2
      obtain ⟨n2, w2, c1, c2, c3, c4⟩ := hQ (b + 1) (by omega)
      obtain ⟨l1, l2⟩ := g3 b hb2
      refine ⟨n2, w2, c1, l1.trans c2, fun j hj => ⟨(c3 j hj).1, (l2 j (by omega)).trans (c3 j hj).2⟩, ?_⟩
      rw [show ((no + 1) % 4 + b) % 4 = (no + (b + 1)) % 4 by omega]
      exact c4
theorem i_vc_at {k : Nat} {u : SX} {v : SY} (I : i_Rel k u v) (hk : k + 3 ≤ 1536) (v1 : Int32) : wpX_at (fun r => wpY_at (fun r' => r' = r ∧ i_Rel (k + 3) u v) v v1) u v1 := by
  have J := I
  obtain ⟨nd, np, no, nb, hd, hp, ho, hb, d, p, sq, sl, d', p', q, ls, rfl, rfl, hD, hP, hQ⟩ := I
  by_cases z : v1 < 0
  · exact br_t z (br_t z ⟨rfl, J⟩)
  · obtain ⟨j, hj, rfl⟩ := nI_of z
    by_cases h : j < np
    · have hin : vp_in (nI j) 48 := vp_in_nI (by omega) (by decide)
      refine br_f z (br_t (nI_lt h (by omega)) ⟨hin, br_f z (br_t (nI_lt h (by omega)) ⟨hin, ?_, J⟩)⟩)
      rw [nI_clamp hj]
      exact (hP j h).2
    · exact br_f z (br_f (nI_nlt (by omega) hj) (br_f z (br_f (nI_nlt (by omega) hj) ⟨rfl, J⟩)))
theorem i_vc_length {k : Nat} {u : SX} {v : SY} (I : i_Rel k u v) (hk : k + 3 ≤ 1536) : wpX_length (fun r => wpY_length (fun r' => r' = r ∧ i_Rel (k + 3) u v) v) u := by
  have J := I
  obtain ⟨nd, np, no, nb, hd, hp, ho, hb, d, p, sq, sl, d', p', q, ls, rfl, rfl, hD, hP, hQ⟩ := I
  exact ⟨rfl, J⟩
theorem i_vc_blocks {k : Nat} {u : SX} {v : SY} (I : i_Rel k u v) (hk : k + 3 ≤ 1536) : wpX_blocks (fun r => wpY_blocks (fun r' => r' = r ∧ i_Rel (k + 3) u v) v) u := by
  have J := I
  obtain ⟨nd, np, no, nb, hd, hp, ho, hb, d, p, sq, sl, d', p', q, ls, rfl, rfl, hD, hP, hQ⟩ := I
  exact ⟨rfl, J⟩
theorem i_vc_find {k : Nat} {u : SX} {v : SY} (I : i_Rel k u v) (hk : k + 3 ≤ 1536) (v1 : Int32) (v2 : Int32) : wpX_find (fun r => wpY_find (fun r' => r' = r ∧ i_Rel (k + 3) u v) v v1 v2) u v1 v2 := by
  have J := I
  obtain ⟨nd, np, no, nb, hd, hp, ho, hb, d, p, sq, sl, d', p', q, ls, rfl, rfl, hD, hP, hQ⟩ := I
  by_cases z : 0 ≤ v2
  · obtain ⟨f, hf, rfl⟩ := nI_of (Int32.not_lt.mpr z)
    refine br_t z ?_
    by_cases hfn : f ≤ np
    · obtain ⟨a, a1, a2⟩ := bq_fi (nI nd) (nI no) (nI nb) (nI nd) (nI nb) d p sq sl d' p' q ls np hp hP v1 (nI f) (np - f) f (by omega) (fun j h1 h2 => nI_nlt h1 (by omega))
      refine ⟨_, a1 _ ⟨_, bq_sk (nI nd) (nI nb) d' p' q ls np f (np - f + 1) hp hf v1 _ f 0 (by omega) (by omega) ?_⟩⟩
      rw [Nat.zero_add]
      exact a2 _ ⟨rfl, J⟩
    · refine ⟨1, br_t (nI_le (by omega) hf) ⟨_, bq_sk (nI nd) (nI nb) d' p' q ls np f 1 hp hf v1 _ np 0 (by omega) (by omega) ?_⟩⟩
      exact br_t (nI_le (by omega) (by omega)) ⟨rfl, J⟩
  · have hneg : v2 < 0 := Int32.not_le.mp z
    obtain ⟨a, a1, a2⟩ := bq_fi (nI nd) (nI no) (nI nb) (nI nd) (nI nb) d p sq sl d' p' q ls np hp hP v1 v2 np 0 (by omega) (fun j h1 h2 y => nI_pos (by omega) (Int32.lt_trans y hneg))
    exact br_f z ⟨_, a1 _ ⟨_, a2 _ ⟨rfl, J⟩⟩⟩
theorem i_vc_edit {k : Nat} {u : SX} {v : SY} (I : i_Rel k u v) (hk : k + 3 ≤ 1536) : wpX_edit (fun u' => wpY_edit (fun v' => i_Rel (k + 3) u' v') v) u := by
  obtain ⟨nd, np, no, nb, hd, hp, ho, hb, d, p, sq, sl, d', p', q, ls, rfl, rfl, hD, hP, hQ⟩ := I
  obtain ⟨e, e', a1, a2, a3⟩ := bq_ed (nI nd) (nI no) (nI nb) (nI np) (nI nb) p sq sl p' q ls np hp hP np 0 d d' (by omega) (fun j hj => absurd hj (Nat.not_lt_zero j))
  exact ⟨_, a2 _ ⟨_, a3 _ ⟨np, np, no, nb, hp, hp, ho, hb, e, p, sq, sl, e', p', q, ls, rfl, rfl, a1, hP, hQ⟩⟩⟩
end
