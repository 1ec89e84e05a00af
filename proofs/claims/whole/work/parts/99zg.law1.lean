/-! the law: what both ask of its tokens -/
section Law1
variable {N : pN} {P : pR} {J K : pI} {B : Nat → Nat} {s i w zn : Nat}
theorem c_aboutHere (hG : GW N P) (hX : q_TX N P K B s 62) (hi : i ≤ s) (hct : q_ct K B s 62 i) (hn : 600 < zn) : f_X4_aboutHere zn N K P 61 = some (if 10 ≤ q_wo B s i ∧ q_wo B s i ≤ 16 then nI (q_wo B s i - 10) else -1) := by
  have w0 : f_X9_isWord zn N K P 62 1000106 = some (bI (decide (q_wo B s i = 10))) := c_isWord (j := 6) hX hi hct (by decide) hn
  have w1 : f_X9_isWord zn N K P 62 1000107 = some (bI (decide (q_wo B s i = 11))) := c_isWord (j := 7) hX hi hct (by decide) hn
  have w2 : f_X9_isWord zn N K P 62 1000108 = some (bI (decide (q_wo B s i = 12))) := c_isWord (j := 8) hX hi hct (by decide) hn
  have w3 : f_X9_isWord zn N K P 62 1000109 = some (bI (decide (q_wo B s i = 13))) := c_isWord (j := 9) hX hi hct (by decide) hn
  have w4 : f_X9_isWord zn N K P 62 1000110 = some (bI (decide (q_wo B s i = 14))) := c_isWord (j := 10) hX hi hct (by decide) hn
  have w5 : f_X9_isWord zn N K P 62 1000111 = some (bI (decide (q_wo B s i = 15))) := c_isWord (j := 11) hX hi hct (by decide) hn
  have w6 : f_X9_isWord zn N K P 62 1000112 = some (bI (decide (q_wo B s i = 16))) := c_isWord (j := 12) hX hi hct (by decide) hn
  unfold f_X4_aboutHere
  simp only [gp_61_0 hG, Option.bind_some, w0, w1, w2, w3, w4, w5, w6]
  by_cases h0 : q_wo B s i = 10
  · rw [decide_eq_true h0, bI_ift, if_pos (by omega), h0]
  · rw [decide_eq_false h0, bI_iff]
    by_cases h1 : q_wo B s i = 11
    · rw [decide_eq_true h1, bI_ift, if_pos (by omega), h1]
    · rw [decide_eq_false h1, bI_iff]
      by_cases h2 : q_wo B s i = 12
      · rw [decide_eq_true h2, bI_ift, if_pos (by omega), h2]
      · rw [decide_eq_false h2, bI_iff]
        by_cases h3 : q_wo B s i = 13
        · rw [decide_eq_true h3, bI_ift, if_pos (by omega), h3]
        · rw [decide_eq_false h3, bI_iff]
          by_cases h4 : q_wo B s i = 14
          · rw [decide_eq_true h4, bI_ift, if_pos (by omega), h4]
          · rw [decide_eq_false h4, bI_iff]
            by_cases h5 : q_wo B s i = 15
            · rw [decide_eq_true h5, bI_ift, if_pos (by omega), h5]
            · rw [decide_eq_false h5, bI_iff]
              by_cases h6 : q_wo B s i = 16
              · rw [decide_eq_true h6, bI_ift, if_pos (by omega), h6]
              · rw [decide_eq_false h6, bI_iff, if_neg (by omega)]
theorem m_isInR {w a b : Nat} (hw : w < 1000) (ha : a < 1000) (hb : b < 1000) : f_X12_isIn (nI w) (nI a) (nI b) = some (bI (decide (a ≤ w ∧ w ≤ b))) := by
  rw [m_isIn]
  by_cases h1 : a ≤ w
  · rw [decide_eq_false (nI_nlt h1 (by omega))]
    by_cases h4 : w ≤ b
    · rw [decide_eq_false (nI_nlt h4 (by omega)), decide_eq_true (show a ≤ w ∧ w ≤ b from ⟨h1, h4⟩)]; rfl
    · rw [decide_eq_true (nI_lt (show b < w by omega) (by omega)), decide_eq_false (show ¬ (a ≤ w ∧ w ≤ b) by omega)]; rfl
  · rw [decide_eq_true (nI_lt (show w < a by omega) (by omega)), decide_eq_false (show ¬ (a ≤ w ∧ w ≤ b) by omega)]; rfl
/-- a word that may stand there -/
theorem m_takes_t (hX : q_MX N P J B s) (hi : i ≤ s) (hmt : q_mt J B s i) (h35 : J 67 35 = nI 0) (hw : q_wo B s i = w) (h0 : w ≠ 0) (h99 : w ≠ 99) (hn : 600 < zn) : ∃ M, f_X12_takes zn N J P 67 (nI w) = some (nI 1, M) ∧ (∀ x, x ≠ 67 → M x = J x) ∧ (∀ k, k < 29 ∨ 34 < k → M 67 k = J 67 k) ∧ q_mt M B s (q_te B s i) := by
  have hk1 := q_wo_1 (B := B) (s := s) (i := i) (by omega)
  have h31 : J 67 31 = nI 3 := by rw [hmt.2.2.1, (q_tt_3 hi).mpr ⟨hk1, by omega⟩]
  have h34 : J 67 34 = nI w := by rw [hmt.2.2.2.2.2 hk1, hw]
  obtain ⟨M, m1, m2, m3, m4⟩ := m_adv hX (q_te_b (B := B) hi).2.1 hmt.1 hn
  refine ⟨M, ?_, m2, m3, m4⟩
  unfold f_X12_takes
  rw [if_pos (show J 67 35 = 0 from h35), if_pos h31, if_pos h34, m1, Option.bind_some]
theorem m_takes_f (hi : i ≤ s) (hmt : q_mt J B s i) (hw : q_wo B s i ≠ w) (hw2 : w < 99) : f_X12_takes zn N J P 67 (nI w) = some (nI 0, J) := by
  have htt := q_tt_b (B := B) (s := s) (i := i)
  have hlt := q_wo_lt (B := B) (s := s) (i := i)
  unfold f_X12_takes
  by_cases h35 : J 67 35 = 0
  · rw [if_pos h35]
    by_cases h31 : J 67 31 = nI 3
    · have h3 : q_tt B s i = 3 := by
        rw [hmt.2.2.1] at h31
        exact (nI_eq (by omega) (by decide)).mp h31
      have h34 := hmt.2.2.2.2.2 ((q_tt_3 hi).mp h3).1
      rw [if_pos h31, if_neg (fun e => by rw [h34] at e; exact hw ((nI_eq (by omega) (by omega)).mp e))]
    · rw [if_neg h31]
  · rw [if_neg h35]
theorem m_takes_n (h35 : J 67 35 = nI 1) {x : Int32} : f_X12_takes zn N J P 67 x = some (nI 0, J) := by
  unfold f_X12_takes
  rw [h35, if_neg (show ¬ nI 1 = 0 by decide)]
end Law1
