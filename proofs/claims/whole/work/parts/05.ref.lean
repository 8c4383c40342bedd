theorem bq_ys (post : Int32 → SY → Prop) (pg : Int32) (d p ls : Nat → Int32) (nd nb : Nat) (hnd : nd ≤ 48) (hnb : nb < 4) :
    ∀ r i q, i + r = nd → (∀ q', (∀ j, i ≤ j → j < nd → q' (48 * nb + j) = d j) → (∀ k, (k < 48 * nb + i ∨ 48 * nb + nd ≤ k) → q' k = q k) →
        post (nI (nb + 1)) (nI nd, pg, nI (nb + 1), d, p, q', upd ls nb (nI nd))) →
      wY_send_12 post (nI nd) pg (nI nb) (r + 1) (nI i) d p q ls := by
  intro r
  induction r with
  | zero =>
    intro i q hi h
    refine br_t (nI_le (by omega) (by omega)) ⟨vp_in_nI hnb (by decide), nm_r (e' := upd ls nb (nI nd)) (by rw [nI_clamp (by omega)]) (nm_r (nI_1 nb) (h q (fun j h1 h2 => by omega) (fun k _ => rfl)))⟩
  | succ r ih =>
    intro i q hi h
    have hx : 48 * nI nb + nI i = nI (48 * nb + i) := by
      rw [show (48 : Int32) = nI 48 from rfl, pk_mul, nI_add]
    refine br_f (nI_ge (by omega) (by omega)) ⟨vp_in_nI (by omega) (by omega), by rw [hx]; exact vp_in_nI (by omega) (by omega), nm_r (e' := upd q (48 * nb + i) (d i)) (by rw [hx, nI_clamp (by omega), nI_clamp (by omega)]) (nm_r (nI_1 i) (ih (i + 1) _ (by omega) ?_))⟩
    intro q' h1 h2
    refine h q' ?_ ?_
    · intro j hj hj2
      by_cases e : j = i
      · subst e
        exact (h2 _ (by omega)).trans pk_us
      · exact h1 j (by omega) hj2
    · intro k hk
      exact (h2 k (by omega)).trans (pk_un (by omega))
theorem bq_y83 (post : Int32 → SY → Prop) (J : Int32 → (Nat → Int32) → (Nat → Int32) → (Nat → Int32) → (Nat → Int32) → Prop) (dr pg bl : Int32) (d p ls : Nat → Int32) (x : Nat) (hx : x < 3) :
    ∀ r i q, i + r = 48 → (∀ q', (∀ j, i ≤ j → j < 48 → q' (48 * x + j) = q (48 * (x + 1) + j)) → (∀ k, (k < 48 * x + i ∨ 48 * (x + 1) ≤ k) → q' k = q k) → J (nI (x + 1)) d p q' ls) →
      wY_receive_83 post J (nI x) dr pg bl (r + 1) (nI i) d p q ls := by
  intro r
  induction r with
  | zero =>
    intro i q hi h
    exact br_t (nI_le (a := 48) (by omega) (by omega)) (nm_r (nI_1 x) (h q (fun j h1 h2 => by omega) (fun k _ => rfl)))
  | succ r ih =>
    intro i q hi h
    have e1 : 48 * (nI x + 1) + nI i = nI (48 * (x + 1) + i) := by
      rw [show (48 : Int32) = nI 48 from rfl, nI_1, pk_mul, nI_add]
    have e2 : 48 * nI x + nI i = nI (48 * x + i) := by
      rw [show (48 : Int32) = nI 48 from rfl, pk_mul, nI_add]
    refine br_f (nI_ge (b := 48) (by omega) (by decide)) ⟨by rw [e1]; exact vp_in_nI (by omega) (by omega), by rw [e2]; exact vp_in_nI (by omega) (by omega), nm_r (e' := upd q (48 * x + i) (q (48 * (x + 1) + i))) (by rw [e1, e2, nI_clamp (by omega), nI_clamp (by omega)]) (nm_r (nI_1 i) (ih (i + 1) _ (by omega) ?_))⟩
    intro q' h1 h2
    refine h q' ?_ ?_
    · intro j hj hj2
      by_cases e : j = i
      · subst e
        exact (h2 _ (by omega)).trans pk_us
      · exact (h1 j (by omega) hj2).trans (pk_un (by omega))
    · intro k hk
      exact (h2 k (by omega)).trans (pk_un (by omega))
theorem bq_y59 (post : Int32 → SY → Prop) (dr pg : Int32) (d p : Nat → Int32) (nb : Nat) (hnb : nb < 4) :
    ∀ r x q ls, x + r = nb → (∀ q' ls', (∀ b, x ≤ b → b < nb → ls' b = ls (b + 1) ∧ ∀ j, j < 48 → q' (48 * b + j) = q (48 * (b + 1) + j)) →
        (∀ b, b < x → ls' b = ls b) → (∀ k, k < 48 * x → q' k = q k) → post pg (dr, pg, nI nb, d, p, q', ls')) →
      wY_receive_59 post dr pg (nI nb) (r + 1) (nI x) d p q ls := by
  intro r
  induction r with
  | zero =>
    intro x q ls hx h
    exact br_t (nI_le (by omega) (by omega)) (h q ls (fun b h1 h2 => by omega) (fun b _ => rfl) (fun k _ => rfl))
  | succ r ih =>
    intro x q ls hx h
    refine br_f (nI_ge (by omega) (by omega)) ⟨by rw [nI_1]; exact vp_in_nI (by omega) (by omega), vp_in_nI (by omega) (by omega), nm_r (e' := upd ls x (ls (x + 1))) (by rw [nI_1, nI_clamp (by omega), nI_clamp (by omega)]) ⟨_, bq_y83 post _ dr pg (nI nb) d p _ x (by omega) 48 0 q rfl ?_⟩⟩
    intro q1 g1 g2
    refine ih (x + 1) q1 _ (by omega) ?_
    intro q' ls' h1 h2 h3
    refine h q' ls' ?_ ?_ ?_
    · intro b hb hb2
      by_cases e : b = x
      · subst e
        refine ⟨(h2 b (by omega)).trans pk_us, fun j hj => ?_⟩
        exact (h3 _ (by omega)).trans (g1 j (by omega) hj)
      · obtain ⟨a1, a2⟩ := h1 b (by omega) hb2
        refine ⟨a1.trans (pk_un (by omega)), fun j hj => ?_⟩
        exact (a2 j hj).trans (g2 _ (by omega))
    · intro b hb
      exact (h2 b (by omega)).trans (pk_un (by omega))
    · intro k hk
      exact (h3 k (by omega)).trans (g2 k (by omega))
theorem bq_y21 (post : Int32 → SY → Prop) (dr : Int32) (d q ls : Nat → Int32) (L nb : Nat) (hL : L ≤ 48) (hnb : nb < 4) :
    ∀ r i p, i + r = L → (∀ p' q' ls', (∀ j, i ≤ j → j < L → p' j = q j) → (∀ j, j < i → p' j = p j) →
        (∀ b, b < nb → ls' b = ls (b + 1) ∧ ∀ j, j < 48 → q' (48 * b + j) = q (48 * (b + 1) + j)) → post (nI L) (dr, nI L, nI nb, d, p', q', ls')) →
      wY_receive_21 post dr (nI L) (nI (nb + 1)) (r + 1) (nI i) d p q ls := by
  intro r
  induction r with
  | zero =>
    intro i p hi h
    refine br_t (nI_le (by omega) (by omega)) (nm_r (nI_pred nb) ⟨_, bq_y59 post dr (nI L) d p nb hnb nb 0 q ls (by omega) ?_⟩)
    intro q' ls' h1 h2 h3
    exact h p q' ls' (fun j h1 h2 => by omega) (fun j _ => rfl) (fun b hb => h1 b (by omega) hb)
  | succ r ih =>
    intro i p hi h
    refine br_f (nI_ge (by omega) (by omega)) ⟨vp_in_nI (by omega) (by omega), vp_in_nI (by omega) (by omega), nm_r (e' := upd p i (q i)) (by rw [nI_clamp (by omega)]) (nm_r (nI_1 i) (ih (i + 1) _ (by omega) ?_))⟩
    intro p' q' ls' h1 h2 h3
    refine h p' q' ls' ?_ ?_ h3
    · intro j hj hj2
      by_cases e : j = i
      · subst e
        exact (h2 _ (by omega)).trans pk_us
      · exact h1 j (by omega) hj2
    · intro j hj
      exact (h2 j (by omega)).trans (pk_un (by omega))
theorem bq_rep (pl os bc bl : Int32) (p sq sl p' q ls : Nat → Int32) (t k : Nat) (h1 : 1 ≤ t) (hk : k ≤ 48) :
    ∀ r i n d d', i + r = k → t ≤ n → n + r ≤ 48 → bq_By n d d' → ∃ e e', bq_By (n + r) e e' ∧
      (∀ post : Int32 → SX → Prop, post (nI (n + r)) (nI (n + r), pl, os, bc, e, p, sq, sl) → wX_repeat_35 post (nI t) (nI k) pl os bc (r + 1) (nI i) (nI n) d p sq sl) ∧
      (∀ post : Int32 → SY → Prop, post (nI (n + r)) (nI (n + r), pl, bl, e', p', q, ls) → wY_repeat_33 post (nI t) (nI k) pl bl (r + 1) (nI i) (nI n) d' p' q ls) := by
  intro r
  induction r with
  | zero =>
    intro i n d d' hi ht hn hd
    exact ⟨d, d', hd, fun post hp => br_t (nI_le (by omega) (by omega)) hp, fun post hp => br_t (nI_le (by omega) (by omega)) hp⟩
  | succ r ih =>
    intro i n d d' hi ht hn hd
    have hs : nI n - nI t = nI (n - t) := pk_sub ht
    obtain ⟨hB, hv⟩ := hd (n - t) (by omega)
    obtain ⟨e, e', a1, a2, a3⟩ := ih (i + 1) (n + 1) (upd d n (d (n - t))) (upd d' n (d' (n - t))) (by omega) (by omega) (by omega) (bq_By_up hd hB hv)
    rw [show n + 1 + r = n + (r + 1) by omega] at a1 a2 a3
    refine ⟨e, e', a1, fun post hp => ?_, fun post hp => ?_⟩
    · exact br_f (nI_ge (by omega) (by omega)) ⟨by rw [hs]; exact vp_in_nI (by omega) (by omega), vp_in_nI (by omega) (by omega), nm_r (e' := upd d n (d (n - t))) (by rw [hs, nI_clamp (by omega), nI_clamp (by omega), bq_nar hB]) (nm_r (nI_1 n) (nm_r (nI_1 i) (a2 post hp)))⟩
    · exact br_f (nI_ge (by omega) (by omega)) ⟨by rw [hs]; exact vp_in_nI (by omega) (by omega), vp_in_nI (by omega) (by omega), nm_r (e' := upd d' n (d' (n - t))) (by rw [hs, nI_clamp (by omega), nI_clamp (by omega)]) (nm_r (nI_1 n) (nm_r (nI_1 i) (a3 post hp)))⟩
theorem bq_ed (dl os bc dr bl : Int32) (p sq sl p' q ls : Nat → Int32) (np : Nat) (hnp : np ≤ 48) (hP : bq_By np p p') :
    ∀ r i d d', i + r = np → bq_By i d d' → ∃ e e', bq_By np e e' ∧
      (∀ post : SX → Prop, post (nI np, nI np, os, bc, e, p, sq, sl) → wX_edit_2 post dl (nI np) os bc (r + 1) (nI i) d p sq sl) ∧
      (∀ post : SY → Prop, post (dr, nI np, bl, e', p', q, ls) → wY_edit_10 post dr (nI np) bl (r + 1) (nI i) d' p' q ls) := by
  intro r
  induction r with
  | zero =>
    intro i d d' hi hd
    have e : i = np := by omega
    subst e
    exact ⟨d, d', hd, fun post hp => br_t (nI_le (by omega) (by omega)) hp, fun post hp => br_t (nI_le (by omega) (by omega)) hp⟩
  | succ r ih =>
    intro i d d' hi hd
    obtain ⟨hB, hv⟩ := hP i (by omega)
    obtain ⟨e, e', a1, a2, a3⟩ := ih (i + 1) (upd d i (p i)) (upd d' i (p' i)) (by omega) (bq_By_up hd hB hv)
    have hin : vp_in (nI i) 48 := vp_in_nI (by omega) (by omega)
    refine ⟨e, e', a1, fun post hp => ?_, fun post hp => ?_⟩
    · exact br_f (nI_ge (by omega) (by omega)) ⟨hin, hin, nm_r (e' := upd d i (p i)) (by rw [nI_clamp (by omega), bq_nar hB]) (nm_r (nI_1 i) (a2 post hp))⟩
    · exact br_f (nI_ge (by omega) (by omega)) ⟨hin, hin, nm_r (e' := upd d' i (p' i)) (by rw [nI_clamp (by omega)]) (nm_r (nI_1 i) (a3 post hp))⟩
theorem bq_fi (dl os bc dr bl : Int32) (d p sq sl d' p' q ls : Nat → Int32) (np : Nat) (hnp : np ≤ 48) (hP : bq_By np p p') (v x2 : Int32) :
    ∀ r i, i + r = np → (∀ j, i ≤ j → j < np → ¬ nI j < x2) → ∃ a : Int32,
      (∀ post : Int32 → Prop, post a → wX_find_18 post v.toInt8.toInt32 dl (nI np) os bc d p sq sl (r + 1) (nI i)) ∧
      (∀ post : Int32 → Prop, post a → wY_find_2 post v x2 dr (nI np) bl d' p' q ls (r + 1) (nI i)) := by
  intro r
  induction r with
  | zero =>
    intro i hi hj
    exact ⟨-1, fun post hp => br_t (nI_le (by omega) (by omega)) hp, fun post hp => br_t (nI_le (by omega) (by omega)) hp⟩
  | succ r ih =>
    intro i hi hj
    have hb : ¬ nI np ≤ nI i := nI_ge (by omega) (by omega)
    have hin : vp_in (nI i) 48 := vp_in_nI (by omega) (by omega)
    have hx : ¬ nI i < x2 := hj i (Nat.le_refl i) (by omega)
    have hc : (nI i).toNatClampNeg = i := nI_clamp (by omega)
    obtain ⟨hB, hv⟩ := hP i (by omega)
    by_cases e : p i = v.toInt8.toInt32
    · have e2 : p' i = v &&& 255 := by rw [hv, e, bp_b]
      exact ⟨nI i, fun post hp => br_f hb ⟨hin, br_t (by rw [hc]; exact e) hp⟩, fun post hp => br_f hb (br_f hx ⟨hin, br_t (by rw [hc]; exact e2) hp⟩)⟩
    · have e2 : ¬ p' i = v &&& 255 := by
        intro z
        rw [hv, ← bp_b v] at z
        exact e (bq_inj hB (bq_B8 v) z)
      obtain ⟨a, a1, a2⟩ := ih (i + 1) (by omega) (fun j h1 h2 => hj j (by omega) h2)
      exact ⟨a, fun post hp => br_f hb ⟨hin, br_f (by rw [hc]; exact e) (nm_r (nI_1 i) (a1 post hp))⟩, fun post hp => br_f hb (br_f hx ⟨hin, br_f (by rw [hc]; exact e2) (nm_r (nI_1 i) (a2 post hp))⟩)⟩
theorem bq_sk (dr bl : Int32) (d' p' q ls : Nat → Int32) (np f n : Nat) (hnp : np ≤ 48) (hf : f < 2 ^ 31) (v : Int32) (post : Int32 → Prop) :
    ∀ r i, i + r ≤ np → i + r ≤ f → wY_find_2 post v (nI f) dr (nI np) bl d' p' q ls n (nI (i + r)) → wY_find_2 post v (nI f) dr (nI np) bl d' p' q ls (n + r) (nI i) := by
  intro r
  induction r with
  | zero =>
    intro i _ _ h
    exact h
  | succ r ih =>
    intro i h1 h2 h
    refine br_f (nI_ge (by omega) (by omega)) (br_t (nI_lt (by omega) hf) (nm_r (nI_1 i) (ih (i + 1) (by omega) (by omega) ?_)))
    rw [show i + 1 + r = i + (r + 1) by omega]
    exact h
