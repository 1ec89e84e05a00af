/-! the law: the class reads a test's number -/
section Law4
variable {N : pN} {P : pR} {K : pI} {B : Nat → Nat} {s i r zn : Nat}
theorem c_readNumber (hG : GW N P) (hX : q_TX N P K B s 62) (hi : i ≤ s) (hct : q_ct K B s 62 i) (hT : TB N P K 65 66 16 18 r) {row col : Nat} (hrow : row < 1000) (hcol : col < 5000) (hn : 600 < zn) : ∃ t V, f_X4_readNumber zn N K P 61 (nI row) (nI col) = some (t, V) ∧ (∀ x, x ≠ 62 → x ≠ 66 → V x = K x) ∧ (∀ k, k ≠ row * 18 + (col + 2) → k ≠ row * 18 + (col + 3) → V 66 k = K 66 k) ∧ ((t = nI 1 ∧ q_sgn B s i = true ∧ q_isn B s (q_te B s i) = true ∧ q_ct V B s 62 (q_te B s (q_te B s i)) ∧ V 62 4 = K 62 4 ∧ V 62 5 = K 62 5 ∧ (row < r → col + 3 < 18 → V 66 (row * 18 + (col + 2)) = nI (q_sn B s i) ∧ V 66 (row * 18 + (col + 3)) = nI (q_vl B s (q_te B s i)))) ∨ (t = nI 0 ∧ V 62 4 = nI 1 ∧ ((q_sgn B s i = false ∧ V 62 5 = nI (q_tp B s i)) ∨ (q_sgn B s i = true ∧ q_isn B s (q_te B s i) = false ∧ V 62 5 = nI (q_tp B s (q_te B s i)))))) := by
  obtain ⟨x, x1, x2⟩ := c_sign hX hi hct
  obtain ⟨V1, p1, p2, p3, p4⟩ := c_put65 hT hrow (j := col + 2) (by omega) x
  have hX1 : q_TX N P V1 B s 62 := hX.to (p2 2 (by decide)) (p2 3 (by decide))
  have hct1 : q_ct V1 B s 62 i := hct.to (fun k _ => by rw [p2 62 (by decide)])
  have y60 := x2 60 (by decide) (by decide)
  have y61 := x2 61 (by decide) (by decide)
  have y62 := x2 62 (by decide) (by decide)
  have ht : (if x = nI 60 then nI 1 else if x = nI 62 then nI 1 else if x = nI 61 then nI 1 else nI 0) = bI (q_sgn B s i) := by
    unfold q_sgn
    by_cases h0 : q_sn B s i = 60
    · rw [if_pos (y60.mpr h0), decide_eq_true (show _ ∨ _ ∨ _ from Or.inl h0)]; rfl
    · rw [if_neg (fun e => h0 (y60.mp e))]
      by_cases h2 : q_sn B s i = 62
      · rw [if_pos (y62.mpr h2), decide_eq_true (show _ ∨ _ ∨ _ from Or.inr (Or.inr h2))]; rfl
      · rw [if_neg (fun e => h2 (y62.mp e))]
        by_cases h1 : q_sn B s i = 61
        · rw [if_pos (y61.mpr h1), decide_eq_true (show _ ∨ _ ∨ _ from Or.inr (Or.inl h1))]; rfl
        · rw [if_neg (fun e => h1 (y61.mp e)), decide_eq_false (fun h => by omega)]; rfl
  cases hq : q_sgn B s i with
  | false =>
    rw [hq] at ht
    have hp := c_pass_f (N := N) (P := P) (zn := zn) hct1
    refine ⟨nI 0, p_u (p_u V1 62 4 (nI 1)) 62 5 (nI (q_tp B s i)), ?_, fun y y1 y2 => by rw [p_u_ne y1, p_u_ne y1, p2 y y2], fun k k1 _ => by rw [p_u_ne (by decide), p_u_ne (by decide), p3 k k1], Or.inr ⟨rfl, by rw [p_u_nk (by decide), p_u_self], Or.inl ⟨rfl, p_u_self⟩⟩⟩
    unfold f_X4_readNumber
    simp only [gp_61_0 hG, gp_61_1 hG, Option.bind_some, x1, nI_add, p1, n_let, ht, hp, bI_iff]
  | true =>
    rw [hq] at ht
    have hsx : x = nI (q_sn B s i) := by
      unfold q_sgn at hq
      rcases of_decide_eq_true hq with h | h | h
      · rw [h]; exact y60.mpr h
      · rw [h]; exact y61.mpr h
      · rw [h]; exact y62.mpr h
    have hj := (q_te_b (B := B) hi).2.1
    obtain ⟨V2, a1, a2, a3, a4⟩ := c_pass_t hX1 hi hct1 hn
    have hX2 : q_TX N P V2 B s 62 := hX1.to (a2 2 (by decide)) (a2 3 (by decide))
    obtain ⟨v, v1, v2⟩ := c_number hX2 hj a4 hn
    have hT2 : TB N P V2 65 66 16 18 r := hT.of (fun k => by rw [a2 65 (by decide), p2 65 (by decide)])
    obtain ⟨V3, b1, b2, b3, b4⟩ := c_put65 hT2 hrow (j := col + 3) (by omega) v
    have hX3 : q_TX N P V3 B s 62 := hX2.to (b2 2 (by decide)) (b2 3 (by decide))
    have hct3 : q_ct V3 B s 62 (q_te B s i) := a4.to (fun k _ => by rw [b2 62 (by decide)])
    have hnu := c_isNumber hX3 hj hct3
    have e66 : ∀ k, V2 66 k = V1 66 k := fun k => by rw [a2 66 (by decide)]
    cases hm : q_isn B s (q_te B s i) with
    | false =>
      rw [hm] at hnu
      have hp := c_pass_f (N := N) (P := P) (zn := zn) hct3
      refine ⟨nI 0, p_u (p_u V3 62 4 (nI 1)) 62 5 (nI (q_tp B s (q_te B s i))), ?_, fun y y1 y2 => by rw [p_u_ne y1, p_u_ne y1, b2 y y2, a2 y y1, p2 y y2], fun k k1 k2 => by rw [p_u_ne (by decide), p_u_ne (by decide), b3 k k2, e66, p3 k k1], Or.inr ⟨rfl, by rw [p_u_nk (by decide), p_u_self], Or.inr ⟨rfl, rfl, p_u_self⟩⟩⟩
      unfold f_X4_readNumber
      simp only [gp_61_0 hG, gp_61_1 hG, Option.bind_some, x1, nI_add, p1, n_let, ht, a1, bI_ift, v1, b1, hnu, hp, n_ck (bI_ck false)]
      rfl
    | true =>
      rw [hm] at hnu
      obtain ⟨V4, d1, d2, d3, d4⟩ := c_pass_t hX3 hj hct3 hn
      refine ⟨nI 1, V4, ?_, fun y y1 y2 => by rw [d2 y y1, b2 y y2, a2 y y1, p2 y y2], fun k k1 k2 => by rw [d2 66 (by decide), b3 k k2, e66, p3 k k1], Or.inl ⟨rfl, rfl, rfl, d4, by rw [d3 4 (by decide) (by decide) (by decide), b2 62 (by decide), a3 4 (by decide) (by decide) (by decide), p2 62 (by decide)], by rw [d3 5 (by decide) (by decide) (by decide), b2 62 (by decide), a3 5 (by decide) (by decide) (by decide), p2 62 (by decide)], fun h1 h2 => ⟨by rw [d2 66 (by decide), b3 _ (by omega), e66, p4 h1 (by omega), hsx], by rw [d2 66 (by decide), b4 h1 (by omega), v2 hm]⟩⟩⟩
      unfold f_X4_readNumber
      simp only [gp_61_0 hG, gp_61_1 hG, Option.bind_some, x1, nI_add, p1, n_let, ht, a1, bI_ift, v1, b1, hnu, d1, n_ck (bI_ck true)]
      rfl
end Law4
