/-! the reference's faults -/
def q_alo (F Q x y : Int32) : Int32 × Int32 := if F = 0 then (x, y) else if Q < y then (F, Q) else if Q = y then (if x < F then (x, y) else (F, Q)) else (x, y)
section MFault
variable {N : pN} {P : pR} {J : pI} {B : Nat → Nat} {s i zn : Nat}
theorem m_stops (hG : GW N P) (h : J 67 35 = nI 0) : f_X12_stops N J P 67 = some (p_u (p_u (p_u J 67 35 (nI 1)) 68 9 (nI 1)) 68 10 (J 67 30)) := by
  have h0 : J 67 35 = 0 := h
  have i9 : p_ib N 68 (nI 9) = true := ib_68 hG (by decide)
  have i10 : p_ib N 68 (nI 10) = true := ib_68 hG (by decide)
  have k9 : (nI 9).toNatClampNeg = 9 := by decide
  have k10 : (nI 10).toNatClampNeg = 10 := by decide
  unfold f_X12_stops
  simp only [if_pos h0, n_let, gp_67_0 hG, Option.bind_some, n_ck i9, n_ck i10, k9, k10]
  rw [p_u_ne (show 67 ≠ 68 by decide), p_u_nk (show 30 ≠ 35 by decide)]
theorem m_stops_n (h : J 67 35 = nI 1) : f_X12_stops N J P 67 = some J := by
  unfold f_X12_stops
  rw [h, if_neg (show ¬ nI 1 = 0 by decide)]
theorem m_also_n {x y : Int32} (h : J 67 35 = nI 1) : f_X12_also N J P 67 x y = some J := by
  unfold f_X12_also
  rw [h, if_neg (show ¬ nI 1 = 0 by decide)]
theorem q_pu_same2 {k : Nat} {v : Int32} (h : J 68 k = v) : p_u J 68 k v = J := p_u_same h
theorem m_also (hG : GW N P) {x y : Int32} (h : J 67 35 = nI 0) : ∃ M, f_X12_also N J P 67 x y = some M ∧ (∀ z, z ≠ 68 → M z = J z) ∧ (∀ k, k ≠ 9 → k ≠ 10 → M 68 k = J 68 k) ∧ M 68 9 = (q_alo (J 68 9) (J 68 10) x y).1 ∧ M 68 10 = (q_alo (J 68 9) (J 68 10) x y).2 := by
  have h0 : J 67 35 = 0 := h
  have i9 : p_ib N 68 (nI 9) = true := ib_68 hG (by decide)
  have i10 : p_ib N 68 (nI 10) = true := ib_68 hG (by decide)
  have k9 : (nI 9).toNatClampNeg = 9 := by decide
  have k10 : (nI 10).toNatClampNeg = 10 := by decide
  have hset : (∀ z, z ≠ 68 → p_u (p_u J 68 9 x) 68 10 y z = J z) ∧ (∀ k, k ≠ 9 → k ≠ 10 → p_u (p_u J 68 9 x) 68 10 y 68 k = J 68 k) ∧ p_u (p_u J 68 9 x) 68 10 y 68 9 = x ∧ p_u (p_u J 68 9 x) 68 10 y 68 10 = y := ⟨fun z hz => by rw [p_u_ne hz, p_u_ne hz], fun k h1 h2 => by rw [p_u_nk h2, p_u_nk h1], by rw [p_u_nk (by decide), p_u_self], p_u_self⟩
  unfold f_X12_also q_alo
  simp only [if_pos h0, gp_67_0 hG, Option.bind_some, n_ck i9, n_ck i10, k9, k10, n_let]
  by_cases c1 : J 68 9 = 0
  · simp only [if_pos c1]
    exact ⟨_, rfl, hset⟩
  · simp only [if_neg c1]
    by_cases c2 : J 68 10 < y
    · simp only [if_pos c2]
      exact ⟨_, rfl, fun z hz => rfl, fun k h1 h2 => rfl, rfl, rfl⟩
    · simp only [if_neg c2]
      by_cases c3 : J 68 10 = y
      · simp only [if_pos c3]
        by_cases c4 : x < J 68 9
        · simp only [if_pos c4]
          exact ⟨_, rfl, hset⟩
        · simp only [if_neg c4]
          exact ⟨_, rfl, fun z hz => rfl, fun k h1 h2 => rfl, rfl, rfl⟩
      · simp only [if_neg c3]
        exact ⟨_, rfl, hset⟩
theorem m_mayBe_any (x y z : Int32) : ∃ b, f_X12_mayBe x y z = some b := by
  unfold f_X12_mayBe J_X12_mayBe_27 J_X12_mayBe_64
  repeat' split
  all_goals exact ⟨_, rfl⟩
theorem m_may_1_0 {v : Nat} (hv : v ≤ 9999) : f_X12_mayBe (nI 1) (nI 0) (nI v) = some (bI (q_tmb 1 0 v)) := by
  have hq : q_tmb 1 0 v = (decide (0 ≤ v) && decide (v ≤ 20)) := rfl
  rw [hq]
  unfold f_X12_mayBe
  rw [if_pos (show nI 0 < nI 2 by decide)]
  by_cases h : 20 < v
  · rw [if_pos (nI_lt h (by omega)), decide_eq_false (show ¬ v ≤ 20 by omega), Bool.and_false]; rfl
  · rw [if_neg (nI_nlt (by omega) (by omega)), decide_eq_true (show 0 ≤ v by omega), decide_eq_true (show v ≤ 20 by omega)]; rfl
theorem m_may_1_1 {v : Nat} (hv : v ≤ 9999) : f_X12_mayBe (nI 1) (nI 1) (nI v) = some (bI (q_tmb 1 1 v)) := by
  have hq : q_tmb 1 1 v = (decide (0 ≤ v) && decide (v ≤ 20)) := rfl
  rw [hq]
  unfold f_X12_mayBe
  rw [if_pos (show nI 1 < nI 2 by decide)]
  by_cases h : 20 < v
  · rw [if_pos (nI_lt h (by omega)), decide_eq_false (show ¬ v ≤ 20 by omega), Bool.and_false]; rfl
  · rw [if_neg (nI_nlt (by omega) (by omega)), decide_eq_true (show 0 ≤ v by omega), decide_eq_true (show v ≤ 20 by omega)]; rfl
theorem m_may_1_2 {v : Nat} (hv : v ≤ 9999) : f_X12_mayBe (nI 1) (nI 2) (nI v) = some (bI (q_tmb 1 2 v)) := by
  have hq : q_tmb 1 2 v = (decide (0 ≤ v) && decide (v ≤ 20)) := rfl
  rw [hq]
  unfold f_X12_mayBe
  rw [if_neg (show ¬ nI 2 < nI 2 by decide), if_pos (show nI 1 = nI 1 by decide), if_neg (show ¬ nI 4 ≤ nI 2 by decide)]
  by_cases h : 20 < v
  · rw [if_pos (nI_lt h (by omega)), decide_eq_false (show ¬ v ≤ 20 by omega), Bool.and_false]; rfl
  · rw [if_neg (nI_nlt (by omega) (by omega)), decide_eq_true (show 0 ≤ v by omega), decide_eq_true (show v ≤ 20 by omega)]; rfl
theorem m_may_1_3 {v : Nat} (hv : v ≤ 9999) : f_X12_mayBe (nI 1) (nI 3) (nI v) = some (bI (q_tmb 1 3 v)) := by
  have hq : q_tmb 1 3 v = (decide (0 ≤ v) && decide (v ≤ 20)) := rfl
  rw [hq]
  unfold f_X12_mayBe
  rw [if_neg (show ¬ nI 3 < nI 2 by decide), if_pos (show nI 1 = nI 1 by decide), if_neg (show ¬ nI 4 ≤ nI 3 by decide)]
  by_cases h : 20 < v
  · rw [if_pos (nI_lt h (by omega)), decide_eq_false (show ¬ v ≤ 20 by omega), Bool.and_false]; rfl
  · rw [if_neg (nI_nlt (by omega) (by omega)), decide_eq_true (show 0 ≤ v by omega), decide_eq_true (show v ≤ 20 by omega)]; rfl
theorem m_may_1_4 {v : Nat} (hv : v ≤ 9999) : f_X12_mayBe (nI 1) (nI 4) (nI v) = some (bI (q_tmb 1 4 v)) := by
  have hq : q_tmb 1 4 v = (decide (0 ≤ v) && decide (v ≤ 4)) := rfl
  rw [hq]
  unfold f_X12_mayBe
  rw [if_neg (show ¬ nI 4 < nI 2 by decide), if_pos (show nI 1 = nI 1 by decide), if_pos (show nI 4 ≤ nI 4 by decide)]
  unfold J_X12_mayBe_27
  rw [if_pos (show nI 1 = nI 1 by decide)]
  by_cases h : 4 < v
  · rw [if_pos (nI_lt h (by omega)), decide_eq_false (show ¬ v ≤ 4 by omega), Bool.and_false]; rfl
  · rw [if_neg (nI_nlt (by omega) (by omega)), decide_eq_true (show 0 ≤ v by omega), decide_eq_true (show v ≤ 4 by omega)]; rfl
theorem m_may_2_0 {v : Nat} (hv : v ≤ 9999) : f_X12_mayBe (nI 2) (nI 0) (nI v) = some (bI (q_tmb 2 0 v)) := by
  have hq : q_tmb 2 0 v = (decide (0 ≤ v) && decide (v ≤ 20)) := rfl
  rw [hq]
  unfold f_X12_mayBe
  rw [if_pos (show nI 0 < nI 2 by decide)]
  by_cases h : 20 < v
  · rw [if_pos (nI_lt h (by omega)), decide_eq_false (show ¬ v ≤ 20 by omega), Bool.and_false]; rfl
  · rw [if_neg (nI_nlt (by omega) (by omega)), decide_eq_true (show 0 ≤ v by omega), decide_eq_true (show v ≤ 20 by omega)]; rfl
theorem m_may_2_1 {v : Nat} (hv : v ≤ 9999) : f_X12_mayBe (nI 2) (nI 1) (nI v) = some (bI (q_tmb 2 1 v)) := by
  have hq : q_tmb 2 1 v = (decide (0 ≤ v) && decide (v ≤ 20)) := rfl
  rw [hq]
  unfold f_X12_mayBe
  rw [if_pos (show nI 1 < nI 2 by decide)]
  by_cases h : 20 < v
  · rw [if_pos (nI_lt h (by omega)), decide_eq_false (show ¬ v ≤ 20 by omega), Bool.and_false]; rfl
  · rw [if_neg (nI_nlt (by omega) (by omega)), decide_eq_true (show 0 ≤ v by omega), decide_eq_true (show v ≤ 20 by omega)]; rfl
theorem m_may_2_2 {v : Nat} (hv : v ≤ 9999) : f_X12_mayBe (nI 2) (nI 2) (nI v) = some (bI (q_tmb 2 2 v)) := by
  have hq : q_tmb 2 2 v = (decide (0 ≤ v) && decide (v ≤ 5)) := rfl
  rw [hq]
  unfold f_X12_mayBe
  rw [if_neg (show ¬ nI 2 < nI 2 by decide), if_neg (show ¬ nI 2 = nI 1 by decide)]
  unfold J_X12_mayBe_27
  rw [if_neg (show ¬ nI 2 = nI 1 by decide), if_pos (show nI 2 = nI 2 by decide), if_pos (show nI 2 = nI 2 by decide)]
  by_cases h : 5 < v
  · rw [if_pos (nI_lt h (by omega)), decide_eq_false (show ¬ v ≤ 5 by omega), Bool.and_false]; rfl
  · rw [if_neg (nI_nlt (by omega) (by omega)), decide_eq_true (show 0 ≤ v by omega), decide_eq_true (show v ≤ 5 by omega)]; rfl
theorem m_may_2_3 {v : Nat} (hv : v ≤ 9999) : f_X12_mayBe (nI 2) (nI 3) (nI v) = some (bI (q_tmb 2 3 v)) := by
  have hq : q_tmb 2 3 v = (decide (1 ≤ v) && decide (v ≤ 9999)) := rfl
  rw [hq]
  unfold f_X12_mayBe
  rw [if_neg (show ¬ nI 3 < nI 2 by decide), if_neg (show ¬ nI 2 = nI 1 by decide)]
  unfold J_X12_mayBe_27
  rw [if_neg (show ¬ nI 2 = nI 1 by decide), if_pos (show nI 2 = nI 2 by decide), if_neg (show ¬ nI 3 = nI 2 by decide)]
  unfold J_X12_mayBe_64
  by_cases h : v < 1
  · rw [if_pos (nI_lt h (by omega)), decide_eq_false (show ¬ 1 ≤ v by omega), Bool.false_and]; rfl
  · rw [if_neg (nI_nlt (by omega) (by omega)), decide_eq_true (show 1 ≤ v by omega), Bool.true_and]
    rw [if_neg (show ¬ nI 3 = nI 2 by decide)]
    rw [if_pos (show nI 2 = nI 2 by decide), decide_eq_true (show v ≤ 9999 by omega)]; rfl
theorem m_may_3_0 {v : Nat} (hv : v ≤ 9999) : f_X12_mayBe (nI 3) (nI 0) (nI v) = some (bI (q_tmb 3 0 v)) := by
  have hq : q_tmb 3 0 v = (decide (0 ≤ v) && decide (v ≤ 20)) := rfl
  rw [hq]
  unfold f_X12_mayBe
  rw [if_pos (show nI 0 < nI 2 by decide)]
  by_cases h : 20 < v
  · rw [if_pos (nI_lt h (by omega)), decide_eq_false (show ¬ v ≤ 20 by omega), Bool.and_false]; rfl
  · rw [if_neg (nI_nlt (by omega) (by omega)), decide_eq_true (show 0 ≤ v by omega), decide_eq_true (show v ≤ 20 by omega)]; rfl
theorem m_may_3_1 {v : Nat} (hv : v ≤ 9999) : f_X12_mayBe (nI 3) (nI 1) (nI v) = some (bI (q_tmb 3 1 v)) := by
  have hq : q_tmb 3 1 v = (decide (0 ≤ v) && decide (v ≤ 20)) := rfl
  rw [hq]
  unfold f_X12_mayBe
  rw [if_pos (show nI 1 < nI 2 by decide)]
  by_cases h : 20 < v
  · rw [if_pos (nI_lt h (by omega)), decide_eq_false (show ¬ v ≤ 20 by omega), Bool.and_false]; rfl
  · rw [if_neg (nI_nlt (by omega) (by omega)), decide_eq_true (show 0 ≤ v by omega), decide_eq_true (show v ≤ 20 by omega)]; rfl
theorem m_may_4_0 {v : Nat} (hv : v ≤ 9999) : f_X12_mayBe (nI 4) (nI 0) (nI v) = some (bI (q_tmb 4 0 v)) := by
  have hq : q_tmb 4 0 v = (decide (0 ≤ v) && decide (v ≤ 20)) := rfl
  rw [hq]
  unfold f_X12_mayBe
  rw [if_pos (show nI 0 < nI 2 by decide)]
  by_cases h : 20 < v
  · rw [if_pos (nI_lt h (by omega)), decide_eq_false (show ¬ v ≤ 20 by omega), Bool.and_false]; rfl
  · rw [if_neg (nI_nlt (by omega) (by omega)), decide_eq_true (show 0 ≤ v by omega), decide_eq_true (show v ≤ 20 by omega)]; rfl
theorem m_may_4_1 {v : Nat} (hv : v ≤ 9999) : f_X12_mayBe (nI 4) (nI 1) (nI v) = some (bI (q_tmb 4 1 v)) := by
  have hq : q_tmb 4 1 v = (decide (0 ≤ v) && decide (v ≤ 20)) := rfl
  rw [hq]
  unfold f_X12_mayBe
  rw [if_pos (show nI 1 < nI 2 by decide)]
  by_cases h : 20 < v
  · rw [if_pos (nI_lt h (by omega)), decide_eq_false (show ¬ v ≤ 20 by omega), Bool.and_false]; rfl
  · rw [if_neg (nI_nlt (by omega) (by omega)), decide_eq_true (show 0 ≤ v by omega), decide_eq_true (show v ≤ 20 by omega)]; rfl
theorem m_may_4_2 {v : Nat} (hv : v ≤ 9999) : f_X12_mayBe (nI 4) (nI 2) (nI v) = some (bI (q_tmb 4 2 v)) := by
  have hq : q_tmb 4 2 v = (decide (1 ≤ v) && decide (v ≤ 9999)) := rfl
  rw [hq]
  unfold f_X12_mayBe
  rw [if_neg (show ¬ nI 2 < nI 2 by decide), if_neg (show ¬ nI 4 = nI 1 by decide)]
  unfold J_X12_mayBe_27
  rw [if_neg (show ¬ nI 4 = nI 1 by decide), if_neg (show ¬ nI 4 = nI 2 by decide)]
  unfold J_X12_mayBe_64
  by_cases h : v < 1
  · rw [if_pos (nI_lt h (by omega)), decide_eq_false (show ¬ 1 ≤ v by omega), Bool.false_and]; rfl
  · rw [if_neg (nI_nlt (by omega) (by omega)), decide_eq_true (show 1 ≤ v by omega), Bool.true_and]
    rw [if_pos (show nI 2 = nI 2 by decide), decide_eq_true (show v ≤ 9999 by omega)]; rfl
theorem m_may_4_3 {v : Nat} (hv : v ≤ 9999) : f_X12_mayBe (nI 4) (nI 3) (nI v) = some (bI (q_tmb 4 3 v)) := by
  have hq : q_tmb 4 3 v = (decide (1 ≤ v) && decide (v ≤ 999)) := rfl
  rw [hq]
  unfold f_X12_mayBe
  rw [if_neg (show ¬ nI 3 < nI 2 by decide), if_neg (show ¬ nI 4 = nI 1 by decide)]
  unfold J_X12_mayBe_27
  rw [if_neg (show ¬ nI 4 = nI 1 by decide), if_neg (show ¬ nI 4 = nI 2 by decide)]
  unfold J_X12_mayBe_64
  by_cases h : v < 1
  · rw [if_pos (nI_lt h (by omega)), decide_eq_false (show ¬ 1 ≤ v by omega), Bool.false_and]; rfl
  · rw [if_neg (nI_nlt (by omega) (by omega)), decide_eq_true (show 1 ≤ v by omega), Bool.true_and]
    rw [if_neg (show ¬ nI 3 = nI 2 by decide)]
    rw [if_neg (show ¬ nI 4 = nI 2 by decide)]
    by_cases h2 : 999 < v
    · rw [if_pos (nI_lt h2 (by omega)), decide_eq_false (show ¬ v ≤ 999 by omega)]; rfl
    · rw [if_neg (nI_nlt (by omega) (by omega)), decide_eq_true (show v ≤ 999 by omega)]; rfl
theorem m_mayBe {w c v : Nat} (h1 : 1 ≤ w) (h4 : w ≤ 4) (hc : c < q_nn w) (hv : v ≤ 9999) : f_X12_mayBe (nI w) (nI c) (nI v) = some (bI (q_tmb w c v)) := by
  have g : w = 1 ∨ w = 2 ∨ w = 3 ∨ w = 4 := by omega
  rcases g with g | g | g | g <;> subst g
  · have hc : c < 5 := hc
    have g : c = 0 ∨ c = 1 ∨ c = 2 ∨ c = 3 ∨ c = 4 := by omega
    rcases g with g | g | g | g | g <;> subst g
    · exact m_may_1_0 hv
    · exact m_may_1_1 hv
    · exact m_may_1_2 hv
    · exact m_may_1_3 hv
    · exact m_may_1_4 hv
  · have hc : c < 4 := hc
    have g : c = 0 ∨ c = 1 ∨ c = 2 ∨ c = 3 := by omega
    rcases g with g | g | g | g <;> subst g
    · exact m_may_2_0 hv
    · exact m_may_2_1 hv
    · exact m_may_2_2 hv
    · exact m_may_2_3 hv
  · have hc : c < 2 := hc
    have g : c = 0 ∨ c = 1 := by omega
    rcases g with g | g <;> subst g
    · exact m_may_3_0 hv
    · exact m_may_3_1 hv
  · have hc : c < 4 := hc
    have g : c = 0 ∨ c = 1 ∨ c = 2 ∨ c = 3 := by omega
    rcases g with g | g | g | g <;> subst g
    · exact m_may_4_0 hv
    · exact m_may_4_1 hv
    · exact m_may_4_2 hv
    · exact m_may_4_3 hv
theorem m_numbersOf {w : Nat} (h1 : 1 ≤ w) (h4 : w ≤ 4) : f_X12_numbersOf (nI w) = some (nI (q_nn w)) := by
  have g : w = 1 ∨ w = 2 ∨ w = 3 ∨ w = 4 := by omega
  rcases g with g | g | g | g <;> subst g <;> decide +kernel
theorem m_mostOf {w : Nat} (h1 : 1 ≤ w) (h4 : w ≤ 4) : f_X12_mostOf (nI w) = some (nI (q_tmo w)) := by
  have g : w = 1 ∨ w = 2 ∨ w = 3 ∨ w = 4 := by omega
  rcases g with g | g | g | g <;> subst g <;> decide +kernel
end MFault
