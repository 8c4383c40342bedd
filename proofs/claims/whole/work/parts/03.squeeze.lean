theorem bq_sd1 (post : SX → Prop) (pl os bc : Int32) (d p : Nat → Int32) (s nd : Nat) (hs : s < 4) (hnd : nd ≤ 48) (hB : ∀ j, j < nd → bq_B (d j)) :
    ∀ r i q m e sq sl, i + r = nd → q ≤ nd → e ≤ q → sl s = nI e → bq_G d (fun i => sq (49 * s + i)) m e q →
      (∀ m' e' sq' sl', e' ≤ 49 → bq_X s sq sl sq' sl' 0 e' → bq_G d (fun i => sq' (49 * s + i)) m' e' nd → post (nI nd, pl, os, bc, d, p, sq', sl')) →
      wX_squeezeDraft_11 post (nI s) (r + 1) (nI q) (nI i) (nI nd) pl os bc d p sq sl := by
  intro r
  induction r with
  | zero =>
    intro i q m e sq sl hi hq he hl hG h
    refine br_t (nI_le (by omega) (by omega)) ?_
    refine bq_kp _ (nI nd) pl os bc d p sq sl s q nd e m hs hnd hq he hB hl hG ?_
    intro m' e' sq' sl' he' hX hG'
    exact h m' e' sq' sl' (by omega) hX hG'
  | succ r ih =>
    intro i q m e sq sl hi hq he hl hG h
    have h0 : wX_squeezeDraft_33 post (wX_squeezeDraft_11 post (nI s) (r + 1)) (nI s) (nI q) (nI i) 0 (nI nd) pl os bc d p sq sl :=
      br_t (by decide) (nm_r (nI_1 i) (ih (i + 1) q m e sq sl (by omega) hq he hl hG h))
    refine br_f (nI_ge (by omega) (by omega)) ?_
    by_cases hqi : q ≤ i
    · refine br_t (nI_le hqi (by omega)) ?_
      obtain ⟨r0, hD, hw⟩ := bq_bd d p sq sl pl os bc nd i hnd (by omega)
      refine hw _ ?_
      rcases hD with hz | ⟨t, n, hr, h1, ht, hn, hM⟩
      · rw [hz]
        exact h0
      · rw [hr]
        have hin : i + n ≤ nd := hM.1
        refine br_f (nI_nle (by omega) (by omega)) ?_
        refine hM.2.2 _ ?_
        refine bq_kp _ (nI nd) pl os bc d p sq sl s q i e m hs (by omega) hqi he (fun j hj => hB j (by omega)) hl hG ?_
        intro m1 e1 sq1 sl1 he1 hX1 hG1
        dsimp only
        refine bq_kc _ (nI nd) pl os bc d p sq1 sl1 s i e1 m1 n t hs he1 hn (by omega) h1 ht hM.2.1 hX1.2.2 hG1 ?_
        intro m2 e2 sq2 sl2 he2 hX2 hG2
        dsimp only
        refine nm_r (nI_add i n) (nm_r (nI_1 i) (ih (i + 1) (i + n) m2 e2 sq2 sl2 (by omega) hin he2 hX2.2.2 hG2 ?_))
        intro m3 e3 sq3 sl3 he3 hX3 hG3
        have hY : bq_X s sq sl sq2 sl2 0 e2 := ⟨fun k hk => (hX2.1 k hk).trans (hX1.1 k hk), fun k hk => (hX2.2.1 k hk).trans (hX1.2.1 k hk), hX2.2.2⟩
        exact h m3 e3 sq3 sl3 he3 ⟨fun k hk => (hX3.1 k hk).trans (hY.1 k hk), fun k hk => (hX3.2.1 k hk).trans (hY.2.1 k hk), hX3.2.2⟩ hG3
    · exact br_f (nI_ge (by omega) (by omega)) h0
theorem bq_sd (post : SX → Prop) (pl os bc : Int32) (d p sq sl : Nat → Int32) (s nd : Nat) (hs : s < 4) (hnd : nd ≤ 48) (hB : ∀ j, j < nd → bq_B (d j))
    (h : ∀ sq' sl', (∀ i, (i < 49 * s ∨ 49 * s + 49 ≤ i) → sq' i = sq i) → (∀ t, t ≠ s → sl' t = sl t) → bq_Blk sq' sl' s nd d → post (nI nd, pl, os, bc, d, p, sq', sl')) :
    wpX_squeezeDraft post (nI nd, pl, os, bc, d, p, sq, sl) (nI s) := by
  refine ⟨vp_in_nI hs (by omega), nm_r (e' := upd sl s 0) (by rw [nI_clamp (by omega)]) ⟨_, bq_sd1 post pl os bc d p s nd hs hnd hB nd 0 0 0 0 sq (upd sl s 0) (by omega) (by omega) (by omega) pk_us ⟨rfl, rfl⟩ ?_⟩⟩
  intro m' e' sq' sl' he hX hG
  exact h sq' sl' (fun i hi => hX.1 i (by omega)) (fun t ht => (hX.2.1 t ht).trans (pk_un ht)) ⟨m', e', he, hX.2.2, hG⟩
