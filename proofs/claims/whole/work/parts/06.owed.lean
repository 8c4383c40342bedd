theorem i_vc_put {k : Nat} {u : SX} {v : SY} (I : i_Rel k u v) (hk : k + 3 ≤ 1536) (v1 : Int32) : wpX_put (fun r u' => wpY_put (fun r' v' => r' = r ∧ i_Rel (k + 3) u' v') v v1) u v1 := by
  have J := I
  obtain ⟨nd, np, no, nb, hd, hp, ho, hb, d, p, sq, sl, d', p', q, ls, rfl, rfl, hD, hP, hQ⟩ := I
  by_cases h : nd < 48
  · have hne : ¬ nI nd = 48 := fun z => absurd ((nI_eq (b := 48) (by omega) (by decide)).mp z) (by omega)
    refine br_t (nI_lt (b := 48) h (by decide)) ⟨vp_in_nI h (by decide), nm_r (e' := upd d nd v1.toInt8.toInt32) (by rw [nI_clamp (by omega), pk_vb]) (nm_r (nI_1 nd) ?_)⟩
    refine br_f hne ⟨vp_in_nI h (by decide), nm_r (e' := upd d' nd (v1 &&& 255)) (by rw [nI_clamp (by omega)]) (nm_r (nI_1 nd) ⟨rfl, ?_⟩)⟩
    exact ⟨nd + 1, np, no, nb, h, hp, ho, hb, _, _, _, _, _, _, _, _, rfl, rfl, bq_By_up hD (bq_B8 v1) (bp_b v1).symm, hP, hQ⟩
  · have e : nd = 48 := by omega
    subst e
    exact br_f (nI_nlt (b := 48) (by omega) (by decide)) (br_t rfl ⟨rfl, J⟩)
theorem i_vc_repeat {k : Nat} {u : SX} {v : SY} (I : i_Rel k u v) (hk : k + 3 ≤ 1536) (v1 : Int32) (v2 : Int32) : wpX_repeat (fun r u' => wpY_repeat (fun r' v' => r' = r ∧ i_Rel (k + 3) u' v') v v1 v2) u v1 v2 := by
  have J := I
  obtain ⟨nd, np, no, nb, hd, hp, ho, hb, d, p, sq, sl, d', p', q, ls, rfl, rfl, hD, hP, hQ⟩ := I
  by_cases z1 : v1 < 1
  · exact br_t z1 (br_t z1 ⟨rfl, J⟩)
  by_cases z2 : v1 ≤ nI nd
  · have y2 : ¬ nI nd < v1 := Int32.not_lt.mpr z2
    by_cases z3 : v2 < 1
    · exact br_f z1 (br_t z2 (br_t z3 (br_f z1 (br_f y2 (br_t z3 ⟨rfl, J⟩)))))
    by_cases z4 : v2 ≤ 48 - nI nd
    · obtain ⟨t, ht, rfl⟩ := nI_of (x := v1) (fun z => z1 (Int32.lt_trans z (by decide)))
      obtain ⟨c, hc, rfl⟩ := nI_of (x := v2) (fun z => z3 (Int32.lt_trans z (by decide)))
      have t1 : 1 ≤ t := Nat.le_of_not_lt (fun z => z1 (nI_lt (b := 1) z (by decide)))
      have c1 : 1 ≤ c := Nat.le_of_not_lt (fun z => z3 (nI_lt (b := 1) z (by decide)))
      have t2 : t ≤ nd := (nI_leI ht (by omega)).mp z2
      have e48 : (48 : Int32) - nI nd = nI (48 - nd) := pk_sub (a := 48) hd
      have c2 : c ≤ 48 - nd := (nI_leI hc (by omega)).mp (by rw [← e48]; exact z4)
      obtain ⟨e, e', a1, a2, a3⟩ := bq_rep (nI np) (nI no) (nI nb) (nI nb) p sq sl p' q ls t c t1 (by omega) c 0 nd d d' (by omega) t2 (by omega) hD
      refine br_f z1 (br_t z2 (br_f z3 (br_t z4 ⟨_, a2 _ ?_⟩)))
      refine br_f z1 (br_f y2 (br_f z3 (br_t z4 ⟨_, a3 _ ⟨rfl, ?_⟩⟩)))
      exact ⟨nd + c, np, no, nb, by omega, hp, ho, hb, _, _, _, _, _, _, _, _, rfl, rfl, a1, hP, hQ⟩
    · exact br_f z1 (br_t z2 (br_f z3 (br_f z4 (br_f z1 (br_f y2 (br_f z3 (br_f z4 ⟨rfl, J⟩)))))))
  · exact br_f z1 (br_f z2 (br_f z1 (br_t (Int32.not_le.mp z2) ⟨rfl, J⟩)))
theorem i_vc_erase {k : Nat} {u : SX} {v : SY} (I : i_Rel k u v) (hk : k + 3 ≤ 1536) : wpX_erase (fun u' => wpY_erase (fun v' => i_Rel (k + 3) u' v') v) u := by
  obtain ⟨nd, np, no, nb, hd, hp, ho, hb, d, p, sq, sl, d', p', q, ls, rfl, rfl, hD, hP, hQ⟩ := I
  exact ⟨0, np, no, nb, by omega, hp, ho, hb, d, p, sq, sl, d', p', q, ls, rfl, rfl, fun j hj => absurd hj (Nat.not_lt_zero j), hP, hQ⟩
theorem i_vc_send {k : Nat} {u : SX} {v : SY} (I : i_Rel k u v) (hk : k + 3 ≤ 1536) : wpX_send (fun r u' => wpY_send (fun r' v' => r' = r ∧ i_Rel (k + 3) u' v') v) u := by
  have J := I
  obtain ⟨nd, np, no, nb, hd, hp, ho, hb, d, p, sq, sl, d', p', q, ls, rfl, rfl, hD, hP, hQ⟩ := I
  by_cases h : nb < 4
  · have hne : ¬ nI nb = 4 := fun z => absurd ((nI_eq (b := 4) (by omega) (by decide)).mp z) (by omega)
    have hsl : nI no + nI nb - (nI no + nI nb) / 4 * 4 = nI ((no + nb) % 4) := by
      rw [nI_add]
      exact pk_rem (d := 4) (by omega) (by decide) (by decide)
    refine br_t (nI_lt (b := 4) h (by decide)) ⟨by decide, nm_r hsl ?_⟩
    refine bq_sd _ (nI np) (nI no) (nI nb) d p sq sl ((no + nb) % 4) nd (Nat.mod_lt _ (by decide)) hd (fun j hj => (hD j hj).1) ?_
    intro sq' sl' h1 h2 h3
    refine nm_r (nI_1 nb) ?_
    refine br_f hne ⟨_, bq_ys _ (nI np) d' p' ls nd nb hd h nd 0 q (by omega) ?_⟩
    intro q' g1 g2
    refine ⟨rfl, nd, np, no, nb + 1, hd, hp, ho, h, d, p, sq', sl', d', p', q', _, rfl, rfl, hD, hP, ?_⟩
    intro b hb2
    by_cases e : b = nb
    · subst e
      exact ⟨nd, d, hd, pk_us, fun j hj => ⟨(hD j hj).1, (g1 j (by omega) hj).trans (hD j hj).2⟩, h3⟩
    · obtain ⟨n, w, a1, a2, a3, a4⟩ := hQ b (by omega)
      have hs : (no + b) % 4 ≠ (no + nb) % 4 := by omega
      exact ⟨n, w, a1, (pk_un e).trans a2, fun j hj => ⟨(a3 j hj).1, (g2 _ (by omega)).trans (a3 j hj).2⟩, bq_BlkC (fun i hi => h1 _ (by omega)) (h2 _ hs) a4⟩
  · have e : nb = 4 := by omega
    subst e
    exact br_f (nI_nlt (b := 4) (by omega) (by decide)) (br_t rfl ⟨rfl, J⟩)
theorem i_vc_receive {k : Nat} {u : SX} {v : SY} (I : i_Rel k u v) (hk : k + 3 ≤ 1536) : wpX_receive (fun r u' => wpY_receive (fun r' v' => r' = r ∧ i_Rel (k + 3) u' v') v) u := by
  have J := I
  obtain ⟨nd, np, no, nb, hd, hp, ho, hb, d, p, sq, sl, d', p', q, ls, rfl, rfl, hD, hP, hQ⟩ := I
  by_cases hz : nb = 0
  · subst hz
    exact br_f (nI_ge (b := 1) (by omega) (by decide)) (br_t rfl ⟨rfl, J⟩)
  · obtain ⟨c, rfl⟩ : ∃ c, nb = c + 1 := ⟨nb - 1, by omega⟩
    obtain ⟨n, w, a1, a2, a3, a4⟩ := hQ 0 (by omega)
    rw [show (no + 0) % 4 = no by omega] at a4
    have hsl : nI no + 1 - (nI no + 1) / 4 * 4 = nI ((no + 1) % 4) := by
      rw [nI_1]
      exact pk_rem (d := 4) (by omega) (by decide) (by decide)
    refine br_t (nI_le (a := 1) (by omega) (by omega)) ?_
    refine bq_un _ (nI nd) (nI np) (nI no) (nI (c + 1)) d p sq sl w no n ho a1 (fun j hj => (a3 j hj).1) a4 ?_
    intro pg hpg
    refine ⟨by decide, nm_r hsl (nm_r (nI_pred c) ?_)⟩
    refine br_f (nI_ne0 (by omega) (by omega)) (nm_r a2 ⟨_, bq_y21 _ (nI nd) d' q ls n c a1 (by omega) n 0 p' (by omega) ?_⟩)
    intro p2 q2 ls2 g1 g2 g3
    refine ⟨rfl, nd, n, (no + 1) % 4, c, hd, a1, Nat.mod_lt _ (by decide), by omega, d, pg, sq, sl, d', p2, q2, ls2, rfl, rfl, hD, ?_, ?_⟩
    · intro j hj
      have h3 := a3 j hj
      rw [show 48 * 0 + j = j by omega] at h3
      rw [hpg j hj, g1 j (by omega) hj]
      exact h3
    · intro b hb2
      obtain ⟨n2, w2, c1, c2, c3, c4⟩ := hQ (b + 1) (by omega)
      obtain ⟨l1, l2⟩ := g3 b hb2
      refine ⟨n2, w2, c1, l1.trans c2, fun j hj => ⟨(c3 j hj).1, (l2 j (by omega)).trans (c3 j hj).2⟩, ?_⟩
      rw [show ((no + 1) % 4 + b) % 4 = (no + (b + 1)) % 4 by omega]
      exact c4
theorem i_vc_at {k : Nat} {u : SX} {v : SY} (I : i_Rel k u v) (hk : k + 3 ≤ 1536) (v1 : Int32) : wpX_at (fun r => wpY_at (fun r' => r' = r ∧ i_Rel (k + 3) u v) v v1) u v1 := by
  have J := I
  obtain ⟨nd, np, no, nb, hd, hp, ho, hb, d, p, sq, sl, d', p', q, ls, rfl, rfl, hD, hP, hQ⟩ := I
  by_cases z : v1 < 0
  · exact br_t z (br_t z ⟨rfl, J⟩)
  · obtain ⟨j, hj, rfl⟩ := nI_of z
    by_cases h : j < np
    · have hin : vp_in (nI j) 48 := vp_in_nI (by omega) (by decide)
      refine br_f z (br_t (nI_lt h (by omega)) ⟨hin, br_f z (br_t (nI_lt h (by omega)) ⟨hin, ?_, J⟩)⟩)
      rw [nI_clamp hj]
      exact (hP j h).2
    · exact br_f z (br_f (nI_nlt (by omega) hj) (br_f z (br_f (nI_nlt (by omega) hj) ⟨rfl, J⟩)))
theorem i_vc_length {k : Nat} {u : SX} {v : SY} (I : i_Rel k u v) (hk : k + 3 ≤ 1536) : wpX_length (fun r => wpY_length (fun r' => r' = r ∧ i_Rel (k + 3) u v) v) u := by
  have J := I
  obtain ⟨nd, np, no, nb, hd, hp, ho, hb, d, p, sq, sl, d', p', q, ls, rfl, rfl, hD, hP, hQ⟩ := I
  exact ⟨rfl, J⟩
theorem i_vc_blocks {k : Nat} {u : SX} {v : SY} (I : i_Rel k u v) (hk : k + 3 ≤ 1536) : wpX_blocks (fun r => wpY_blocks (fun r' => r' = r ∧ i_Rel (k + 3) u v) v) u := by
  have J := I
  obtain ⟨nd, np, no, nb, hd, hp, ho, hb, d, p, sq, sl, d', p', q, ls, rfl, rfl, hD, hP, hQ⟩ := I
  exact ⟨rfl, J⟩
theorem i_vc_find {k : Nat} {u : SX} {v : SY} (I : i_Rel k u v) (hk : k + 3 ≤ 1536) (v1 : Int32) (v2 : Int32) : wpX_find (fun r => wpY_find (fun r' => r' = r ∧ i_Rel (k + 3) u v) v v1 v2) u v1 v2 := by
  have J := I
  obtain ⟨nd, np, no, nb, hd, hp, ho, hb, d, p, sq, sl, d', p', q, ls, rfl, rfl, hD, hP, hQ⟩ := I
  by_cases z : 0 ≤ v2
  · obtain ⟨f, hf, rfl⟩ := nI_of (Int32.not_lt.mpr z)
    refine br_t z ?_
    by_cases hfn : f ≤ np
    · obtain ⟨a, a1, a2⟩ := bq_fi (nI nd) (nI no) (nI nb) (nI nd) (nI nb) d p sq sl d' p' q ls np hp hP v1 (nI f) (np - f) f (by omega) (fun j h1 h2 => nI_nlt h1 (by omega))
      refine ⟨_, a1 _ ⟨_, bq_sk (nI nd) (nI nb) d' p' q ls np f (np - f + 1) hp hf v1 _ f 0 (by omega) (by omega) ?_⟩⟩
      rw [Nat.zero_add]
      exact a2 _ ⟨rfl, J⟩
    · refine ⟨1, br_t (nI_le (by omega) hf) ⟨_, bq_sk (nI nd) (nI nb) d' p' q ls np f 1 hp hf v1 _ np 0 (by omega) (by omega) ?_⟩⟩
      exact br_t (nI_le (by omega) (by omega)) ⟨rfl, J⟩
  · have hneg : v2 < 0 := Int32.not_le.mp z
    obtain ⟨a, a1, a2⟩ := bq_fi (nI nd) (nI no) (nI nb) (nI nd) (nI nb) d p sq sl d' p' q ls np hp hP v1 v2 np 0 (by omega) (fun j h1 h2 y => nI_pos (by omega) (Int32.lt_trans y hneg))
    exact br_f z ⟨_, a1 _ ⟨_, a2 _ ⟨rfl, J⟩⟩⟩
theorem i_vc_edit {k : Nat} {u : SX} {v : SY} (I : i_Rel k u v) (hk : k + 3 ≤ 1536) : wpX_edit (fun u' => wpY_edit (fun v' => i_Rel (k + 3) u' v') v) u := by
  obtain ⟨nd, np, no, nb, hd, hp, ho, hb, d, p, sq, sl, d', p', q, ls, rfl, rfl, hD, hP, hQ⟩ := I
  obtain ⟨e, e', a1, a2, a3⟩ := bq_ed (nI nd) (nI no) (nI nb) (nI np) (nI nb) p sq sl p' q ls np hp hP np 0 d d' (by omega) (fun j hj => absurd hj (Nat.not_lt_zero j))
  exact ⟨_, a2 _ ⟨_, a3 _ ⟨np, np, no, nb, hp, hp, ho, hb, e, p, sq, sl, e', p', q, ls, rfl, rfl, a1, hP, hQ⟩⟩⟩
