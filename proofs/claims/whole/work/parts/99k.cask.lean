/-! what the class asks of a token -/
theorem q_wt_b : ∀ j, j < 16 → 0 < q_wt.getD j 0 ∧ q_wt.getD j 0 < 99 := by decide +kernel
section CAsk
variable {N : pN} {P : pR} {I J : pI} {B : Nat → Nat} {s a i j zn : Nat}
theorem q_lets (hi : i ≤ s) (h1 : q_tk B s i = 1) : ∀ k, k < q_te B s i - q_tp B s i → 97 ≤ B (q_tp B s i + k) ∧ B (q_tp B s i + k) ≤ 122 := fun k hk => by
  have := q_te_in hi (Or.inl h1) (j := q_tp B s i + k) (by omega) (by omega)
  exact (q_kd_b _).2.2.1 (by rw [this, h1])
theorem q_digs (hi : i ≤ s) (h1 : q_tk B s i = 2) : ∀ k, k < q_te B s i - q_tp B s i → 48 ≤ B (q_tp B s i + k) ∧ B (q_tp B s i + k) ≤ 57 := fun k hk => by
  have := q_te_in hi (Or.inr h1) (j := q_tp B s i + k) (by omega) (by omega)
  exact (q_kd_b _).2.2.2.1 (by rw [this, h1])
theorem q_wo_iff (hi : i ≤ s) (hj : j < 16) (h1 : q_tk B s i = 1) : q_wo B s i = q_wt.getD j 0 ↔ (q_te B s i - q_tp B s i = p_len.getD j 0 ∧ ∀ k, k < p_len.getD j 0 → B (q_tp B s i + k) = q_tx j k) := by
  unfold q_wo
  rw [if_pos h1, q_wd_j hj, ← q_tx_k j hj]
  constructor
  · intro h
    obtain ⟨e1, e2⟩ := q_nc_inj _ _ (q_lets hi h1) (fun k hk => ⟨(q_tx_b j hj k hk).1, (q_tx_b j hj k hk).2.1⟩) h
    refine ⟨e1, fun k hk => ?_⟩
    rw [e2 k (by omega), Nat.zero_add]
  · rintro ⟨e1, e2⟩
    rw [e1]
    exact q_nc_eq _ (fun k hk => by rw [e2 k hk, Nat.zero_add])
theorem c_charAt {m : Nat} (hj : j < 16) (hm : m < p_len.getD j 0) : f_J0_charAt_5068e (1000100 + j) (nI m) = some (nI (q_tx j m)) := by
  have h6 := (q_tx_6 j hj).1
  unfold f_J0_charAt_5068e
  rw [Nat.add_sub_cancel_left, nI_clamp (by omega), decide_eq_false (nI_pos (show m < 2 ^ 31 by omega)), decide_eq_true hm, (q_tx_b j hj m hm).2.2]
  rfl
theorem c_isWord (hX : q_TX N P J B s a) (hi : i ≤ s) (hc : q_ct J B s a i) (hj : j < 16) (hn : 600 < zn) : f_X9_isWord zn N J P a (1000100 + j) = some (bI (decide (q_wo B s i = q_wt.getD j 0))) := by
  obtain ⟨hp, hT, hs, hb, ha⟩ := id hX
  obtain ⟨c1, c2, c3⟩ := hc
  have h6 := (q_tx_6 j hj).1
  have hwb := q_wt_b j hj
  have hk4 := q_tk_b (B := B) hi
  have hte := q_te_b (B := B) hi
  have hlen : f_J0_length_8abf5 (1000100 + j) = some (nI (p_len.getD j 0)) := by
    unfold f_J0_length_8abf5
    rw [Nat.add_sub_cancel_left]
  unfold f_X9_isWord
  rw [c1, c2, c3, pk_sub hte.1, hlen, Option.bind_some]
  by_cases h1 : q_tk B s i = 1
  · rw [if_pos (by rw [h1])]
    by_cases hl : q_te B s i - q_tp B s i = p_len.getD j 0
    · rw [if_pos (by rw [hl])]
      have hloop := p_loopI (B := B_X9_isWord_28 N J P a (1000100 + j)) (zJ := fun zm (zc : Int32) => zc = nI zm ∧ ∀ k, k < zm → B (q_tp B s i + k) = q_tx j k) (zE := fun (zt : Int32) => zt = bI (decide (q_wo B s i = q_wt.getD j 0))) (zm := p_len.getD j 0) (zn := zn) (by omega) ?_ ?_ (nI 0) ⟨rfl, fun k hk => absurd hk (by omega)⟩
      · obtain ⟨t, t1, t2⟩ := hloop
        rw [t1, t2]
      · rintro zm hm zc ⟨m1, m2⟩
        subst m1
        have hle : ¬ nI (p_len.getD j 0) ≤ nI zm := nI_ge hm (by omega)
        have hg := hX.get (j := q_tp B s i + zm) (by omega)
        have hbb := (hb (q_tp B s i + zm) (by omega)).2
        have hxx := (q_tx_b j hj zm hm).2.1
        rw [Nat.zero_add] at hxx
        by_cases he : B (q_tp B s i + zm) = q_tx j zm
        · left
          refine ⟨nI (zm + 1), ⟨rfl, fun k hk => ?_⟩, fun zrec => ?_⟩
          · by_cases e : k = zm
            · rw [e]; exact he
            · exact m2 k (by omega)
          · unfold B_X9_isWord_28
            simp only [hlen, Option.bind_some, if_neg hle, hp, c2, nI_add, hg, c_charAt hj hm, if_pos (congrArg nI he)]
        · right
          have hne : ¬ nI (B (q_tp B s i + zm)) = nI (q_tx j zm) := fun e => he ((nI_eq (by omega) (by omega)).mp e)
          have hf : decide (q_wo B s i = q_wt.getD j 0) = false := decide_eq_false (fun e => he (((q_wo_iff hi hj h1).mp e).2 zm hm))
          refine ⟨nI 0, by rw [hf]; rfl, fun zrec => ?_⟩
          unfold B_X9_isWord_28
          simp only [hlen, Option.bind_some, if_neg hle, hp, c2, nI_add, hg, c_charAt hj hm, if_neg hne]
      · rintro zc ⟨m1, m2⟩
        subst m1
        have hf : decide (q_wo B s i = q_wt.getD j 0) = true := decide_eq_true ((q_wo_iff hi hj h1).mpr ⟨hl, m2⟩)
        refine ⟨nI 1, by rw [hf]; rfl, fun zrec => ?_⟩
        unfold B_X9_isWord_28
        simp only [hlen, Option.bind_some, if_pos (nI_le (Nat.le_refl (p_len.getD j 0)) (show p_len.getD j 0 < 2 ^ 31 by omega))]
    · rw [if_neg (fun e => hl ((nI_eq (by omega) (by omega)).mp e)), decide_eq_false (fun e => hl ((q_wo_iff hi hj h1).mp e).1)]
      rfl
  · rw [if_neg (fun e => h1 ((nI_eq (by omega) (by decide)).mp e)), decide_eq_false (fun e => by unfold q_wo at e; rw [if_neg h1] at e; omega)]
    rfl
theorem c_sign (hX : q_TX N P J B s a) (hi : i ≤ s) (hc : q_ct J B s a i) : ∃ x, f_X9_sign N J P a = some x ∧ ∀ b, 0 < b → b < 256 → (x = nI b ↔ q_sn B s i = b) := by
  obtain ⟨hp, hT, hs, hb, ha⟩ := id hX
  obtain ⟨c1, c2, c3⟩ := hc
  have hk4 := q_tk_b (B := B) hi
  unfold f_X9_sign q_sn
  rw [c1, c2]
  by_cases h3 : q_tk B s i = 3
  · have hk := (q_tk_k (B := B) hi (by omega)).1
    refine ⟨nI (B (q_tp B s i)), ?_, fun b h1 h2 => ?_⟩
    · rw [if_pos (by rw [h3]), hp, Option.bind_some, hX.get hk, Option.bind_some]
    · have := (hb _ hk).2
      rw [if_pos h3]
      exact nI_eq (by omega) (by omega)
  · refine ⟨-1, ?_, fun b h1 h2 => ?_⟩
    · rw [if_neg (fun e => h3 ((nI_eq (by omega) (by decide)).mp e))]
    · rw [if_neg h3]
      constructor
      · intro e
        exact absurd e.symm (n_neg1 (by omega))
      · intro e; omega
theorem c_number (hX : q_TX N P J B s a) (hi : i ≤ s) (hc : q_ct J B s a i) (hn : 600 < zn) : ∃ x, f_X9_number zn N J P a = some x ∧ (q_isn B s i = true → x = nI (q_vl B s i)) := by
  obtain ⟨hp, hT, hs, hb, ha⟩ := id hX
  obtain ⟨c1, c2, c3⟩ := hc
  have hte := q_te_b (B := B) hi
  have hloop := p_loopI (B := B_X9_number_7 N J P a) (zJ := fun zm (zc : Int32 × Int32) => zc.1 = q_nm B (q_tp B s i) zm ∧ zc.2 = nI (q_tp B s i + zm)) (zE := fun (zt : Int32) => zt = q_nm B (q_tp B s i) (min (q_te B s i - q_tp B s i) 4)) (zm := min (q_te B s i - q_tp B s i) 4) (zn := zn) (by omega) ?_ ?_ (nI 0, J a 2) ⟨rfl, by rw [c2]; rfl⟩
  · obtain ⟨t, t1, t2⟩ := hloop
    refine ⟨t, ?_, fun h => ?_⟩
    · unfold f_X9_number
      rw [t1, Option.bind_some]
    · unfold q_isn at h
      rw [Bool.and_eq_true] at h
      have h2 := of_decide_eq_true h.1
      have h4 := of_decide_eq_true h.2
      rw [t2, Nat.min_eq_left h4]
      exact (q_nm_N _ (q_digs hi h2)).1
  · rintro zm hm ⟨z1, z2⟩ ⟨m1, m2⟩
    dsimp only at m1 m2
    subst m1 m2
    left
    have hle : ¬ nI (q_te B s i) ≤ nI (q_tp B s i + zm) := nI_ge (by omega) (by omega)
    have hle2 : ¬ nI (q_tp B s i + 4) ≤ nI (q_tp B s i + zm) := nI_ge (by omega) (by omega)
    have hg := hX.get (j := q_tp B s i + zm) (by omega)
    refine ⟨(q_nm B (q_tp B s i) (zm + 1), nI (q_tp B s i + (zm + 1))), ⟨rfl, rfl⟩, fun zrec => ?_⟩
    unfold B_X9_number_7
    simp only [c3, if_neg hle, c2, nI_add, if_neg hle2, hp, Option.bind_some, hg, n_let]
    rfl
  · rintro ⟨z1, z2⟩ ⟨m1, m2⟩
    dsimp only at m1 m2
    subst m1 m2
    refine ⟨_, rfl, fun zrec => ?_⟩
    unfold B_X9_number_7
    by_cases h4 : q_te B s i - q_tp B s i ≤ 4
    · have hle : nI (q_te B s i) ≤ nI (q_tp B s i + min (q_te B s i - q_tp B s i) 4) := nI_le (by omega) (by omega)
      simp only [c3, if_pos hle]
    · have hle : ¬ nI (q_te B s i) ≤ nI (q_tp B s i + min (q_te B s i - q_tp B s i) 4) := nI_ge (by omega) (by omega)
      have hle2 : nI (q_tp B s i + 4) ≤ nI (q_tp B s i + min (q_te B s i - q_tp B s i) 4) := nI_le (by omega) (by omega)
      simp only [c3, if_neg hle, c2, nI_add, if_pos hle2]
theorem c_isNumber (hX : q_TX N P J B s a) (hi : i ≤ s) (hc : q_ct J B s a i) : f_X9_isNumber J a = some (bI (q_isn B s i)) := by
  obtain ⟨hp, hT, hs, hb, ha⟩ := id hX
  obtain ⟨c1, c2, c3⟩ := hc
  have hk4 := q_tk_b (B := B) hi
  have hte := q_te_b (B := B) hi
  unfold f_X9_isNumber q_isn
  rw [c1, c2, c3, pk_sub hte.1]
  by_cases h2 : q_tk B s i = 2
  · rw [if_pos (by rw [h2]), decide_eq_true h2, Bool.true_and]
    by_cases h4 : q_te B s i - q_tp B s i ≤ 4
    · rw [if_neg (nI_nlt h4 (by omega)), decide_eq_true h4]; rfl
    · rw [if_pos (nI_lt (by omega) (by omega)), decide_eq_false h4]; rfl
  · rw [if_neg (fun e => h2 ((nI_eq (by omega) (by decide)).mp e)), decide_eq_false h2]; rfl
theorem c_pass_t (hX : q_TX N P J B s a) (hi : i ≤ s) (hc : q_ct J B s a i) (hn : 600 < zn) : ∃ K, f_X9_pass zn N J P a (bI true) = some (bI true, K) ∧ (∀ x, x ≠ a → K x = J x) ∧ (∀ k, k ≠ 1 → k ≠ 2 → k ≠ 3 → K a k = J a k) ∧ q_ct K B s a (q_te B s i) := by
  obtain ⟨K, k1, k2, k3, k4⟩ := c_adv hX (q_te_b (B := B) hi).2.1 hc.2.2 hn
  refine ⟨K, ?_, k2, k3, k4⟩
  unfold f_X9_pass
  rw [bI_ift, k1, Option.bind_some, n_ck (bI_ck true)]
theorem c_pass_f (hc : q_ct J B s a i) : f_X9_pass zn N J P a (bI false) = some (bI false, p_u (p_u J a 4 (nI 1)) a 5 (nI (q_tp B s i))) := by
  unfold f_X9_pass f_X9_note
  rw [bI_iff, if_pos rfl, n_let, n_let, Option.bind_some, n_ck (bI_ck false), hc.2.1]
end CAsk
