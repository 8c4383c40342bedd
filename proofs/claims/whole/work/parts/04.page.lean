theorem bq_ap (post : SX → Prop) (dl os bc : Int32) (d pg sq sl : Nat → Int32) (q : Nat) (x : Int32) (hq : q < 48) (hx : bq_B x)
    (h : post (dl, nI (q + 1), os, bc, d, upd pg q x, sq, sl)) : wpX_addToPage post (dl, nI q, os, bc, d, pg, sq, sl) x :=
  br_f (nI_ge (b := 48) hq (by decide)) ⟨vp_in_nI hq (by decide), nm_r (e' := upd pg q x) (by rw [nI_clamp (by omega), bq_nar hx]) (nm_r (nI_1 q) h)⟩
theorem bq_ext {q : Nat} {pg w : Nat → Int32} (h : ∀ j, j < q → pg j = w j) : ∀ j, j < q + 1 → upd pg q (w q) j = w j := by
  intro j hj
  by_cases e : j = q
  · subst e
    exact pk_us
  · rw [pk_un e]
    exact h j (by omega)
theorem bq_cp1 (post : SX → Prop) (dl os bc : Int32) (d sq sl w : Nat → Int32) (t k : Nat) (h1 : 1 ≤ t) (hk : k ≤ 48) :
    ∀ r i q pg, i + r = k → t ≤ q → q + r ≤ 48 → (∀ j, j < q + r → bq_B (w j)) → (∀ j, j < r → w (q + j) = w (q + j - t)) → (∀ j, j < q → pg j = w j) →
      (∀ pg', (∀ j, j < q + r → pg' j = w j) → post (dl, nI (q + r), os, bc, d, pg', sq, sl)) →
      wX_copyInPage_16 post (nI t) (nI k) (r + 1) (nI i) dl (nI q) os bc d pg sq sl := by
  intro r
  induction r with
  | zero =>
    intro i q pg hi ht hq hB hw hp h
    exact br_t (nI_le (by omega) (by omega)) (h pg hp)
  | succ r ih =>
    intro i q pg hi ht hq hB hw hp h
    have hs : nI q - nI t = nI (q - t) := pk_sub ht
    have hv : pg (nI q - nI t).toNatClampNeg = w q := by
      rw [hs, nI_clamp (by omega), hp _ (by omega)]
      exact (hw 0 (by omega)).symm
    refine br_f (nI_ge (by omega) (by omega)) ⟨by rw [hs]; exact vp_in_nI (by omega) (by omega), ?_⟩
    rw [hv]
    refine bq_ap _ dl os bc d pg sq sl q (w q) (by omega) (hB q (by omega)) ?_
    refine nm_r (nI_1 i) (ih (i + 1) (q + 1) (upd pg q (w q)) (by omega) (by omega) (by omega) (fun j hj => hB j (by omega)) ?_ (bq_ext hp) ?_)
    · intro j hj
      have h3 := hw (j + 1) (by omega)
      rw [show q + (j + 1) = q + 1 + j by omega] at h3
      exact h3
    · intro pg' hp'
      rw [show q + 1 + r = q + (r + 1) by omega] at hp' ⊢
      exact h pg' hp'
theorem bq_cp (post : SX → Prop) (dl os bc : Int32) (d pg sq sl w : Nat → Int32) (t k q : Nat) (h1 : 1 ≤ t) (ht : t ≤ q) (hq : q + k ≤ 48) (hB : ∀ j, j < q + k → bq_B (w j))
    (hw : ∀ j, j < k → w (q + j) = w (q + j - t)) (hp : ∀ j, j < q → pg j = w j)
    (h : ∀ pg', (∀ j, j < q + k → pg' j = w j) → post (dl, nI (q + k), os, bc, d, pg', sq, sl)) :
    wpX_copyInPage post (dl, nI q, os, bc, d, pg, sq, sl) (nI t) (nI k) :=
  br_f (nI_nlt (b := 1) h1 (by omega)) (br_t (nI_le ht (by omega)) ⟨_, bq_cp1 post dl os bc d sq sl w t k h1 (by omega) k 0 q pg (by omega) ht hq hB hw hp h⟩)
theorem bq_pl1 (post : SX → Prop) (dl os bc : Int32) (d sq sl w : Nat → Int32) (s E n : Nat) (hs : s < 4) (hE : E ≤ 49) :
    ∀ r a q pg, a + r ≤ E → q + r ≤ 48 → (∀ j, j < q + r → bq_B (w j)) → (∀ j, j < r → sq (49 * s + (a + j)) = w (q + j)) → (∀ j, j < q → pg j = w j) →
      (∀ pg', (∀ j, j < q + r → pg' j = w j) → wX_unsqueezeToPage_28 post (nI (49 * s + E)) n 0 0 (nI (49 * s + (a + r))) dl (nI (q + r)) os bc d pg' sq sl) →
      wX_unsqueezeToPage_28 post (nI (49 * s + E)) (n + r) (nI r) 0 (nI (49 * s + a)) dl (nI q) os bc d pg sq sl := by
  intro r
  induction r with
  | zero =>
    intro a q pg ha hq hB hc hp h
    exact h pg hp
  | succ r ih =>
    intro a q pg ha hq hB hc hp h
    have hv : sq (nI (49 * s + a)).toNatClampNeg = w q := by
      rw [nI_clamp (by omega)]
      exact hc 0 (by omega)
    refine br_f (nI_ge (by omega) (by omega)) ⟨vp_in_nI (by omega) (by omega), nm_r hv (br_f (nI_nle (by omega) (by omega)) ?_)⟩
    refine bq_ap _ dl os bc d pg sq sl q (w q) (by omega) (hB q (by omega)) ?_
    refine nm_r (pk_m1 r) (nm_r (e' := nI (49 * s + (a + 1))) (nI_1 (49 * s + a)) (ih (a + 1) (q + 1) (upd pg q (w q)) (by omega) (by omega) (fun j hj => hB j (by omega)) ?_ (bq_ext hp) ?_))
    · intro j hj
      have h3 := hc (j + 1) (by omega)
      rw [show q + (j + 1) = q + 1 + j by omega, show a + (j + 1) = a + 1 + j by omega] at h3
      exact h3
    · intro pg' hp'
      rw [show q + 1 + r = q + (r + 1) by omega] at hp' ⊢
      rw [show a + 1 + r = a + (r + 1) by omega]
      exact h pg' hp'
theorem bq_dec (post : SX → Prop) (dl os bc : Int32) (d sq sl w : Nat → Int32) (s E L : Nat) (hs : s < 4) (hE : E ≤ 49) (hL : L ≤ 48) (hB : ∀ j, j < L → bq_B (w j)) :
    ∀ m P Q n, bq_G w (fun i => sq (49 * s + i)) m P Q → P ≤ E → Q ≤ L →
      (∀ pg', (∀ j, j < Q → pg' j = w j) → wX_unsqueezeToPage_28 post (nI (49 * s + E)) n 0 0 (nI (49 * s + P)) dl (nI Q) os bc d pg' sq sl) →
      ∀ pg, wX_unsqueezeToPage_28 post (nI (49 * s + E)) (n + P) 0 0 (nI (49 * s)) dl 0 os bc d pg sq sl := by
  intro m
  induction m with
  | zero =>
    intro P Q n hG hP hQ h pg
    obtain ⟨e1, e2⟩ := hG
    subst e1 e2
    exact h pg (fun j hj => absurd hj (Nat.not_lt_zero j))
  | succ m ih =>
    intro P Q n hG hP hQ h pg
    obtain ⟨P', Q', hG, hh⟩ := hG
    rcases hh with ⟨k, h1, h2, h3, h4, h5, h6⟩ | ⟨k, t, h1, h2, h3, h4, h5, h6, h7, h8, h9⟩
    · subst h3 h4
      rw [show n + (P' + 1 + k) = n + k + 1 + P' by omega]
      refine ih P' Q' (n + k + 1) hG (by omega) (by omega) ?_ pg
      intro pg' hp
      have hv : sq (nI (49 * s + P')).toNatClampNeg = nI k := by
        rw [nI_clamp (by omega)]
        exact h5
      refine br_f (nI_ge (by omega) (by omega)) ⟨vp_in_nI (by omega) (by omega), nm_r hv (br_t (by decide) (br_t (by decide) (br_f (nI_ge (b := 64) (by omega) (by decide)) (nm_r (e' := nI (49 * s + (P' + 1))) (nI_1 (49 * s + P')) ?_))))⟩
      exact bq_pl1 post dl os bc d sq sl w s E n hs hE k (P' + 1) Q' pg' (by omega) (by omega) (fun j hj => hB j (by omega)) h6 hp h
    · subst h5 h6
      rw [show n + (P' + 2) = n + 1 + 1 + P' by omega]
      refine ih P' Q' (n + 1 + 1) hG (by omega) (by omega) ?_ pg
      intro pg' hp
      have hv : sq (nI (49 * s + P')).toNatClampNeg = nI (64 + k) := by
        rw [nI_clamp (by omega)]
        exact h7
      have hv2 : sq (nI (49 * s + (P' + 1))).toNatClampNeg = nI t := by
        rw [nI_clamp (by omega)]
        exact h8
      have hk : nI (64 + k) - 64 = nI k := by
        rw [show (64 : Int32) = nI 64 from rfl, pk_sub (by omega), Nat.add_sub_cancel_left]
      refine br_f (nI_ge (by omega) (by omega)) ⟨vp_in_nI (by omega) (by omega), nm_r hv (br_t (by decide) (br_t (by decide) (br_t (nI_le (a := 64) (by omega) (by omega)) (nm_r hk (nm_r (e' := nI (49 * s + (P' + 1))) (nI_1 (49 * s + P')) ?_)))))⟩
      refine br_f (nI_ge (by omega) (by omega)) ⟨vp_in_nI (by omega) (by omega), nm_r hv2 (br_t (by decide) (br_f (nI_nle (by omega) (by omega)) ?_))⟩
      refine bq_cp _ dl os bc d pg' sq sl w t k Q' h3 h4 (by omega) (fun j hj => hB j (by omega)) h9 hp ?_
      intro pg2 hp2
      exact nm_r (e' := nI (49 * s + (P' + 2))) (nI_1 (49 * s + (P' + 1))) (h pg2 hp2)
theorem bq_un (post : SX → Prop) (dl pl os bc : Int32) (d pg sq sl w : Nat → Int32) (s L : Nat) (hs : s < 4) (hL : L ≤ 48) (hB : ∀ j, j < L → bq_B (w j)) (hb : bq_Blk sq sl s L w)
    (h : ∀ pg', (∀ j, j < L → pg' j = w j) → post (dl, nI L, os, bc, d, pg', sq, sl)) :
    wpX_unsqueezeToPage post (dl, pl, os, bc, d, pg, sq, sl) (nI s) := by
  obtain ⟨m, E, hE, hl, hG⟩ := hb
  have e1 : nI s * 49 = nI (49 * s) := by
    rw [show (49 : Int32) = nI 49 from rfl, pk_mul, Nat.mul_comm]
  have e2 : nI (49 * s) + sl (nI s).toNatClampNeg = nI (49 * s + E) := by
    rw [nI_clamp (by omega), hl, nI_add]
  refine nm_r e1 ⟨vp_in_nI hs (by decide), nm_r e2 ⟨1 + E, bq_dec post dl os bc d sq sl w s E L hs hE hL hB m E L 1 hG (Nat.le_refl E) (Nat.le_refl L) ?_ pg⟩⟩
  intro pg' hp
  exact br_t (nI_le (Nat.le_refl _) (by omega)) (h pg' hp)
