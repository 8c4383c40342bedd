/-- matchLength at place i and distance t answers n, and n bytes there are alike -/
def bq_M (u : SX) (d : Nat → Int32) (nd i t n : Nat) : Prop :=
  i + n ≤ nd ∧ (∀ j, j < n → d (i + j) = d (i + j - t)) ∧ ∀ post : Int32 → Prop, post (nI n) → wpX_matchLength post u (nI i) (nI t)
theorem bq_ml1 (d p sq sl : Nat → Int32) (pl os bc : Int32) (nd i t : Nat) (hnd : nd ≤ 48) (h1 : 1 ≤ t) (ht : t ≤ i) :
    ∀ r x, x + r = nd → i ≤ x → ∃ n, x ≤ i + n ∧ i + n ≤ nd ∧ (∀ j, x ≤ i + j → j < n → d (i + j) = d (i + j - t)) ∧
      ∀ post : Int32 → Prop, post (nI n) → wX_matchLength_2 post (nI i) (nI t) (nI nd) pl os bc d p sq sl (r + 1) (nI x) := by
  intro r
  induction r with
  | zero =>
    intro x hx hi
    refine ⟨nd - i, by omega, by omega, fun j h2 h3 => by omega, fun post hp => br_t (nI_le (by omega) (by omega)) ?_⟩
    rw [pk_sub (by omega)]
    exact hp
  | succ r ih =>
    intro x hx hi
    have hb : ¬ nI nd ≤ nI x := nI_ge (by omega) (by omega)
    have hin : vp_in (nI x) 48 := vp_in_nI (by omega) (by omega)
    have hs : nI x - nI t = nI (x - t) := pk_sub (by omega)
    have hin2 : vp_in (nI x - nI t) 48 := by rw [hs]; exact vp_in_nI (by omega) (by omega)
    by_cases e : d x = d (x - t)
    · obtain ⟨n, a1, a2, a3, a4⟩ := ih (x + 1) (by omega) (by omega)
      refine ⟨n, by omega, a2, fun j h2 h3 => ?_, fun post hp => br_f hb ⟨hin, hin2, br_t ?_ (nm_r (nI_1 x) (a4 post hp))⟩⟩
      · by_cases hj : x + 1 ≤ i + j
        · exact a3 j hj h3
        · have hx2 : i + j = x := by omega
          rw [hx2]
          exact e
      · rw [hs, nI_clamp (by omega), nI_clamp (by omega)]
        exact e
    · refine ⟨x - i, by omega, by omega, fun j h2 h3 => by omega, fun post hp => br_f hb ⟨hin, hin2, br_f ?_ ?_⟩⟩
      · rw [hs, nI_clamp (by omega), nI_clamp (by omega)]
        exact e
      · rw [pk_sub hi]
        exact hp
theorem bq_ml (d p sq sl : Nat → Int32) (pl os bc : Int32) (nd i t : Nat) (hnd : nd ≤ 48) (hi : i ≤ nd) (h1 : 1 ≤ t) (ht : t ≤ i) :
    ∃ n, bq_M (nI nd, pl, os, bc, d, p, sq, sl) d nd i t n := by
  obtain ⟨n, a1, a2, a3, a4⟩ := bq_ml1 d p sq sl pl os bc nd i t hnd h1 ht (nd - i) i (by omega) (Nat.le_refl i)
  exact ⟨n, a2, fun j hj => a3 j (by omega) hj, fun post hp => ⟨_, a4 post hp⟩⟩
/-- what bestDistance may answer -/
def bq_D (u : SX) (d : Nat → Int32) (nd i : Nat) (r : Int32) : Prop :=
  r = 0 ∨ ∃ t n, r = nI t ∧ 1 ≤ t ∧ t ≤ i ∧ 3 ≤ n ∧ bq_M u d nd i t n
theorem bq_bd1 (d p sq sl : Nat → Int32) (pl os bc : Int32) (nd i : Nat) (hnd : nd ≤ 48) (hi : i ≤ nd) :
    ∀ k x l (x2 : Int32), x + k = i + 1 → 1 ≤ x → 2 ≤ l → l ≤ 48 → bq_D (nI nd, pl, os, bc, d, p, sq, sl) d nd i x2 →
      ∃ r, bq_D (nI nd, pl, os, bc, d, p, sq, sl) d nd i r ∧
        ∀ post : Int32 → Prop, post r → wX_bestDistance_7 post (nI i) (nI nd) pl os bc d p sq sl (k + 1) x2 (nI l) (nI x) := by
  intro k
  induction k with
  | zero =>
    intro x l x2 hx h1 h2 h3 hD
    exact ⟨x2, hD, fun post hp => br_t (nI_lt (by omega) (by omega)) hp⟩
  | succ k ih =>
    intro x l x2 hx h1 h2 h3 hD
    have hb : ¬ nI i < nI x := nI_nlt (by omega) (by omega)
    obtain ⟨n, hM⟩ := bq_ml d p sq sl pl os bc nd i x hnd hi h1 (by omega)
    have hn : i + n ≤ nd := hM.1
    by_cases hl : n ≤ l
    · obtain ⟨r, a, b⟩ := ih (x + 1) l x2 (by omega) (by omega) h2 h3 hD
      refine ⟨r, a, fun post hp => br_f hb (hM.2.2 _ ?_)⟩
      exact br_t (nI_le hl (by omega)) (nm_r (nI_1 x) (b post hp))
    · obtain ⟨r, a, b⟩ := ih (x + 1) n (nI x) (by omega) (by omega) (by omega) (by omega) (Or.inr ⟨x, n, rfl, h1, by omega, by omega, hM⟩)
      refine ⟨r, a, fun post hp => br_f hb (hM.2.2 _ ?_)⟩
      exact br_f (nI_ge (by omega) (by omega)) (nm_r (nI_1 x) (b post hp))
theorem bq_bd (d p sq sl : Nat → Int32) (pl os bc : Int32) (nd i : Nat) (hnd : nd ≤ 48) (hi : i ≤ nd) :
    ∃ r, bq_D (nI nd, pl, os, bc, d, p, sq, sl) d nd i r ∧
      ∀ post : Int32 → Prop, post r → wpX_bestDistance post (nI nd, pl, os, bc, d, p, sq, sl) (nI i) := by
  obtain ⟨r, a, b⟩ := bq_bd1 d p sq sl pl os bc nd i hnd hi i 1 2 0 (by omega) (by omega) (by omega) (by omega) (Or.inl rfl)
  exact ⟨r, a, fun post hp => ⟨_, b post hp⟩⟩
theorem bq_keep (post : SX → Prop) (dl pl os bc : Int32) (d p sq sl : Nat → Int32) (s e : Nat) (x : Int32) (hs : s < 4) (he : e < 49) (hl : sl s = nI e)
    (h : post (dl, pl, os, bc, d, p, upd sq (49 * s + e) x.toInt8.toInt32, upd sl s (nI (e + 1)))) :
    wpX_keep post (dl, pl, os, bc, d, p, sq, sl) (nI s) x := by
  have hin : vp_in (nI s) 4 := vp_in_nI hs (by omega)
  have hc : (nI s).toNatClampNeg = s := nI_clamp (by omega)
  have hx : nI s * 49 + nI e = nI (49 * s + e) := by
    rw [show (49 : Int32) = nI 49 from rfl, pk_mul, nI_add, Nat.mul_comm]
  refine ⟨hin, nm_r (e' := nI e) (by rw [hc, hl]) (br_f (nI_ge (b := 49) he (by decide)) ⟨?_, nm_r (e' := upd sq (49 * s + e) x.toInt8.toInt32) ?_ ⟨hin, nm_r (e' := upd sl s (nI (e + 1))) ?_ h⟩⟩)⟩
  · rw [hx]
    exact vp_in_nI (by omega) (by omega)
  · rw [hx, nI_clamp (by omega), pk_vb]
  · rw [hc, nI_1]
/-- only cells of slot s from its place e on have changed, and its length is e' -/
def bq_X (s : Nat) (sq sl sq' sl' : Nat → Int32) (e e' : Nat) : Prop :=
  (∀ i, (i < 49 * s + e ∨ 49 * s + 49 ≤ i) → sq' i = sq i) ∧ (∀ t, t ≠ s → sl' t = sl t) ∧ sl' s = nI e'
theorem bq_Xt {s e e' e'' : Nat} {a la b lb c lc : Nat → Int32} (h1 : bq_X s a la b lb e e') (h2 : bq_X s b lb c lc e' e'') (he : e ≤ e') : bq_X s a la c lc e e'' :=
  ⟨fun i hi => (h2.1 i (by omega)).trans (h1.1 i hi), fun t ht => (h2.2.1 t ht).trans (h1.2.1 t ht), h2.2.2⟩
theorem bq_X0 {s e e' : Nat} {a la b lb : Nat → Int32} (h : bq_X s a la b lb e e') : bq_X s a la b lb 0 e' :=
  ⟨fun i hi => h.1 i (by omega), h.2⟩
theorem bq_Xr {s e : Nat} {a la : Nat → Int32} (h : la s = nI e) : bq_X s a la a la e e := ⟨fun _ _ => rfl, fun _ _ => rfl, h⟩
theorem bq_Xk (s e : Nat) (sq sl : Nat → Int32) (x : Int32) (he : e < 49) : bq_X s sq sl (upd sq (49 * s + e) x) (upd sl s (nI (e + 1))) e (e + 1) :=
  ⟨fun i hi => pk_un (by omega), fun t ht => pk_un ht, pk_us⟩
theorem bq_kp1 (post : SX → Prop) (dl pl os bc : Int32) (d p : Nat → Int32) (s b : Nat) (hs : s < 4) (hb : b ≤ 48) (hB : ∀ j, j < b → bq_B (d j)) :
    ∀ r a e sq sl, a + r = b → e + r ≤ 49 → sl s = nI e →
      (∀ sq' sl', bq_X s sq sl sq' sl' e (e + r) → (∀ j, j < r → sq' (49 * s + (e + j)) = d (a + j)) → post (dl, pl, os, bc, d, p, sq', sl')) →
      wX_keepPlain_16 post (nI s) (nI b) (r + 1) (nI a) dl pl os bc d p sq sl := by
  intro r
  induction r with
  | zero =>
    intro a e sq sl ha he hl h
    exact br_t (nI_le (by omega) (by omega)) (h sq sl (bq_Xr hl) (fun j hj => by omega))
  | succ r ih =>
    intro a e sq sl ha he hl h
    have hd : (d (nI a).toNatClampNeg).toInt8.toInt32 = d a := by
      rw [nI_clamp (by omega)]
      exact hB a (by omega)
    refine br_f (nI_ge (by omega) (by omega)) ⟨vp_in_nI (by omega) (by omega), ?_⟩
    refine bq_keep _ dl pl os bc d p sq sl s e _ hs (by omega) hl ?_
    dsimp only
    rw [hd]
    refine nm_r (nI_1 a) (ih (a + 1) (e + 1) _ _ (by omega) (by omega) pk_us ?_)
    intro sq' sl' hX hj
    have hX2 := bq_Xt (bq_Xk s e sq sl (d a) (by omega)) hX (by omega)
    refine h sq' sl' (by rw [show e + (r + 1) = e + 1 + r by omega]; exact hX2) ?_
    intro j hj2
    by_cases hz : j = 0
    · subst hz
      exact (hX.1 (49 * s + (e + 0)) (Or.inl (by omega))).trans pk_us
    · have h3 := hj (j - 1) (by omega)
      rw [show e + 1 + (j - 1) = e + j by omega, show a + 1 + (j - 1) = a + j by omega] at h3
      exact h3
theorem bq_kp (post : SX → Prop) (dl pl os bc : Int32) (d p sq sl : Nat → Int32) (s a b e m : Nat) (hs : s < 4) (hb : b ≤ 48) (hab : a ≤ b) (hea : e ≤ a)
    (hB : ∀ j, j < b → bq_B (d j)) (hl : sl s = nI e) (hG : bq_G d (fun i => sq (49 * s + i)) m e a)
    (h : ∀ m' e' sq' sl', e' ≤ b + 1 → bq_X s sq sl sq' sl' 0 e' → bq_G d (fun i => sq' (49 * s + i)) m' e' b → post (dl, pl, os, bc, d, p, sq', sl')) :
    wpX_keepPlain post (dl, pl, os, bc, d, p, sq, sl) (nI s) (nI a) (nI b) := by
  by_cases hlt : a < b
  · refine br_f (nI_ge hlt (by omega)) ?_
    rw [pk_sub hab]
    refine bq_keep _ dl pl os bc d p sq sl s e _ hs (by omega) hl ?_
    dsimp only
    have hv : (nI (b - a)).toInt8.toInt32 = nI (b - a) := bq_small _ (by omega)
    rw [hv]
    refine ⟨_, bq_kp1 post dl pl os bc d p s b hs hb hB (b - a) a (e + 1) _ _ (by omega) (by omega) pk_us ?_⟩
    intro sq' sl' hX hj
    have hX2 := bq_Xt (bq_Xk s e sq sl (nI (b - a)) (by omega)) hX (by omega)
    refine h (m + 1) (e + 1 + (b - a)) sq' sl' (by omega) (bq_X0 hX2) ⟨e, a, bq_Gc m e a (fun i hi => hX2.1 _ (by omega)) hG, Or.inl ⟨b - a, by omega, by omega, rfl, by omega, ?_, hj⟩⟩
    exact (hX.1 (49 * s + e) (Or.inl (by omega))).trans pk_us
  · have hq : a = b := by omega
    subst hq
    exact br_t (nI_le (by omega) (by omega)) ⟨1, br_t (nI_le (by omega) (by omega)) (h m e sq sl (by omega) (bq_X0 (bq_Xr hl)) hG)⟩
theorem bq_kc (post : SX → Prop) (dl pl os bc : Int32) (d p sq sl : Nat → Int32) (s q e m n t : Nat) (hs : s < 4) (he : e ≤ q + 1) (hn : 3 ≤ n) (hq : q + n ≤ 48)
    (h1 : 1 ≤ t) (ht : t ≤ q) (hm : ∀ j, j < n → d (q + j) = d (q + j - t)) (hl : sl s = nI e) (hG : bq_G d (fun i => sq (49 * s + i)) m e q)
    (h : ∀ m' e' sq' sl', e' ≤ q + n → bq_X s sq sl sq' sl' 0 e' → bq_G d (fun i => sq' (49 * s + i)) m' e' (q + n) → post (dl, pl, os, bc, d, p, sq', sl')) :
    wpX_keepCopy post (dl, pl, os, bc, d, p, sq, sl) (nI s) (nI t) (nI n) := by
  unfold wpX_keepCopy
  dsimp only
  have hv : (64 + nI n).toInt8.toInt32 = nI (64 + n) := by
    rw [show (64 : Int32) = nI 64 from rfl, nI_add]
    exact bq_small _ (by omega)
  have hv2 : (nI t).toInt8.toInt32 = nI t := bq_small _ (by omega)
  refine bq_keep _ dl pl os bc d p sq sl s e _ hs (by omega) hl ?_
  dsimp only
  rw [hv]
  refine bq_keep _ dl pl os bc d p _ _ s (e + 1) _ hs (by omega) pk_us ?_
  dsimp only
  rw [hv2]
  have hX1 := bq_Xk s e sq sl (nI (64 + n)) (by omega)
  have hX2 := bq_Xk s (e + 1) (upd sq (49 * s + e) (nI (64 + n))) (upd sl s (nI (e + 1))) (nI t) (by omega)
  have hX := bq_Xt hX1 hX2 (by omega)
  refine h (m + 1) (e + 1 + 1) _ _ (by omega) (bq_X0 hX) ⟨e, q, bq_Gc m e q (fun i hi => hX.1 _ (by omega)) hG, Or.inr ⟨n, t, hn, by omega, h1, ht, rfl, rfl, ?_, ?_, hm⟩⟩
  · exact (hX2.1 (49 * s + e) (Or.inl (by omega))).trans pk_us
  · exact pk_us
