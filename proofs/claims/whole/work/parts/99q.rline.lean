/-! the class reads a town's line -/
def q_ta (w : Nat) : Nat := if w = 1 then 4 else if w = 2 then 6 else if w = 3 then 10 else 8
def q_tfr (K t : pI) : Prop := ∀ x, x ≠ 56 → x ≠ 59 → x ≠ 60 → t x = K x
def q_tcl (N : pN) (P : pR) (K t : pI) (B : Nat → Nat) (s : Nat) (A : Nat → Int32) (i : Nat) : Prop :=
  (∃ c, q_fb B s i c ∧ t 56 4 = nI 1 ∧ t 56 5 = nI (q_tp B s (q_ad B s c i)) ∧ q_tfr K t) ∨
  (q_gl B s i ∧ q_ct t B s 56 (q_ad B s (q_nn (q_wo B s i) + 2) i) ∧
    ((K 56 4 = nI 0 ∧ (q_lf B s A i).1 = nI 0 ∧ t 56 4 = nI 0 ∧ t 56 5 = K 56 5 ∧ ∃ M, q_tfr K M ∧ q_added N P M t (q_cm B s A i) (q_ta (q_wo B s i)) (q_twi (q_wo B s i)) (nv (A (q_tix (q_wo B s i))))) ∨
     (K 56 4 = nI 0 ∧ (q_lf B s A i).1 ≠ nI 0 ∧ t 56 4 = (q_lf B s A i).1 ∧ t 56 5 = (q_lf B s A i).2 ∧ q_tfr K t) ∨
     (K 56 4 ≠ nI 0 ∧ t 56 4 = K 56 4 ∧ t 56 5 = K 56 5 ∧ q_tfr K t)))
section RLine
variable {B : Nat → Nat} {s i w : Nat} {N : pN} {P : pR} {K : pI} {A : Nat → Int32} {zn : Nat}
theorem c_note {F Q : Int32} (hf : K 56 4 = nI 0) (h1 : ¬ F = nI 1) : f_X9_note K 56 F Q = some (p_u (p_u K 56 4 F) 56 5 Q) := by
  have hf0 : K 56 4 = 0 := hf
  unfold f_X9_note
  rw [if_neg h1, if_pos hf0, n_let, n_let]
theorem c_take30 (hG : GW N P) (hc : q_cn K B s i (q_nn (q_wo B s i))) (h1 : 1 ≤ q_wo B s i) (h4 : q_wo B s i ≤ 4) (hf : K 56 4 = nI 0) (hcr : ¬ (q_wo B s i = 1 ∧ q_crk B s i = true)) {t c wd : Nat} (hT : TB N P K t c (q_tmo (q_wo B s i)) wd (nv (A (q_tix (q_wo B s i))))) (hadd : nv (A (q_tix (q_wo B s i))) < q_tmo (q_wo B s i) → (∀ d, d < q_nn (q_wo B s i) → q_tmb (q_wo B s i) d (q_v B s i d) = true) → ∃ x, f_X10_addTo zn N K P 55 t (nI (q_wo B s i - 1)) (K 1 11) = some x ∧ q_added N P K x (q_cm B s A i) t wd (nv (A (q_tix (q_wo B s i))))) (hn : 600 < zn) : ∃ x, J_X10_take_30 zn N K P t 55 1 (nI (q_wo B s i - 1)) (nI (q_tp B s i)) = some x ∧ (if (q_lf B s A i).1 = nI 0 then q_added N P K x (q_cm B s A i) t wd (nv (A (q_tix (q_wo B s i)))) else x = p_u (p_u K 56 4 (q_lf B s A i).1) 56 5 (q_lf B s A i).2) := by
  unfold J_X10_take_30
  rw [tb_full hT, Option.bind_some]
  by_cases hfull : nv (A (q_tix (q_wo B s i))) < q_tmo (q_wo B s i)
  · have hlf : q_lf B s A i = q_nf B s i (q_wo B s i) (q_nn (q_wo B s i)) := by
      unfold q_lf
      rw [if_neg hcr, if_neg (by omega)]
    rw [if_pos hfull, if_pos (show nI 0 = 0 from rfl), c_fine hG hc h1 h4 hf hn, Option.bind_some, hlf]
    by_cases hz : (q_nf B s i (q_wo B s i) (q_nn (q_wo B s i))).1 = nI 0
    · obtain ⟨x, x1, x2⟩ := hadd hfull (q_nf_0 hz).2
      refine ⟨x, ?_, ?_⟩
      · simp only [if_pos hz, if_neg (show ¬ nI 1 = 0 by decide), x1, Option.bind_some]
      · rw [if_pos hz]; exact x2
    · refine ⟨p_u (p_u K 56 4 (q_nf B s i (q_wo B s i) (q_nn (q_wo B s i))).1) 56 5 (q_nf B s i (q_wo B s i) (q_nn (q_wo B s i))).2, ?_, ?_⟩
      · simp only [if_neg hz, if_pos (show nI 0 = 0 from rfl)]
      · rw [if_neg hz]
  · have hlf : q_lf B s A i = (nI 4, nI (q_tp B s i)) := by
      unfold q_lf
      rw [if_neg hcr, if_pos (by omega)]
    rw [if_neg hfull, if_neg (show ¬ nI 1 = 0 by decide), gp_55_0 hG, Option.bind_some, c_note hf (show ¬ nI 4 = nI 1 by decide), Option.bind_some, hlf]
    refine ⟨_, rfl, ?_⟩
    rw [if_neg (show ¬ nI 4 = nI 0 by decide)]
theorem c_take (hG : GW N P) (hS : SR N P (q_r68 K A) 1 0) (hc : q_cn K B s i (q_nn (q_wo B s i))) (h1 : 1 ≤ q_wo B s i) (h4 : q_wo B s i ≤ 4) (hf : K 56 4 = nI 0) (hn : 600 < zn) : ∃ x, f_X10_take zn N K P 55 1 (nI (q_wo B s i - 1)) (nI (q_tp B s i)) = some x ∧ (if (q_lf B s A i).1 = nI 0 then q_added N P K x (q_cm B s A i) (q_ta (q_wo B s i)) (q_twi (q_wo B s i)) (nv (A (q_tix (q_wo B s i)))) else x = p_u (p_u K 56 4 (q_lf B s A i).1) 56 5 (q_lf B s A i).2) := by
  have g : q_wo B s i = 1 ∨ q_wo B s i = 2 ∨ q_wo B s i = 3 ∨ q_wo B s i = 4 := by omega
  have hc0 := hc
  rcases g with g | g | g | g
  · have hT : TB N P K 4 5 12 7 (nv (A 0)) := (hS.rw.2.1).of (fun j => (by rw [q_r68_n (by decide)] : K 4 j = q_r68 K A 4 j))
    rw [g] at hc0
    have hcr := c_crooked hG hc0
    unfold f_X10_take f_X10_tableOf
    cases hb : q_crk B s i with
    | true =>
      have hlf : q_lf B s A i = (nI 3, nI (q_tp B s i)) := by
        unfold q_lf
        rw [if_pos ⟨g, hb⟩]
      refine ⟨p_u (p_u K 56 4 (nI 3)) 56 5 (nI (q_tp B s i)), ?_, ?_⟩
      · rw [g]
        simp only [if_true, gp_1_1 hG, Option.bind_some, if_pos (show nI 0 = 0 from rfl), Nat.sub_self, hcr, hb, bI_ift, gp_55_0 hG, c_note hf (show ¬ nI 3 = nI 1 by decide)]
      · rw [hlf, if_neg (show ¬ nI 3 = nI 0 by decide)]
    | false =>
      obtain ⟨x, x1, x2⟩ := c_take30 (A := A) hG hc h1 h4 hf (fun h => by rw [hb] at h; cases h.2) (t := 4) (c := 5) (wd := 7) (zn := zn) (by rw [g]; exact hT) (fun a1 a2 => by rw [g] at a1 a2 ⊢; exact c_add1 hG hS hc0 g hb a1 a2 hn) hn
      refine ⟨x, ?_, ?_⟩
      · rw [g] at x1 ⊢
        simp only [if_true, gp_1_1 hG, Option.bind_some, if_pos (show nI 0 = 0 from rfl), Nat.sub_self, hcr, hb, bI_iff]
        exact x1
      · rw [g] at x2 ⊢; exact x2
  · have hT : TB N P K 6 7 6 8 (nv (A 1)) := (hS.rs.2.1).of (fun j => (by rw [q_r68_n (by decide)] : K 6 j = q_r68 K A 6 j))
    rw [g] at hc0
    obtain ⟨x, x1, x2⟩ := c_take30 (A := A) hG hc h1 h4 hf (fun h => by omega) (t := 6) (c := 7) (wd := 8) (zn := zn) (by rw [g]; exact hT) (fun a1 a2 => by rw [g] at a1 a2 ⊢; exact c_add2 hG hS hc0 g a1 a2 hn) hn
    refine ⟨x, ?_, ?_⟩
    · unfold f_X10_take f_X10_tableOf
      rw [g] at x1 ⊢
      simp only [show (2 : Nat) - 1 = 1 from rfl] at x1 ⊢
      simp only [if_neg (show ¬ nI 1 = nI 0 by decide), if_true, gp_1_2 hG, Option.bind_some, if_neg (show ¬ nI 1 = 0 by decide)]
      exact x1
    · rw [g] at x2 ⊢; exact x2
  · have hT : TB N P K 10 11 8 2 (nv (A 3)) := (hS.rn.2.1).of (fun j => (by rw [q_r68_n (by decide)] : K 10 j = q_r68 K A 10 j))
    rw [g] at hc0
    obtain ⟨x, x1, x2⟩ := c_take30 (A := A) hG hc h1 h4 hf (fun h => by omega) (t := 10) (c := 11) (wd := 2) (zn := zn) (by rw [g]; exact hT) (fun a1 a2 => by rw [g] at a1 a2 ⊢; exact c_add3 hG hS hc0 g a1 a2 hn) hn
    refine ⟨x, ?_, ?_⟩
    · unfold f_X10_take f_X10_tableOf
      rw [g] at x1 ⊢
      simp only [show (3 : Nat) - 1 = 2 from rfl] at x1 ⊢
      simp only [if_neg (show ¬ nI 2 = nI 0 by decide), if_neg (show ¬ nI 2 = nI 1 by decide), if_true, gp_1_4 hG, Option.bind_some, if_neg (show ¬ nI 2 = 0 by decide)]
      exact x1
    · rw [g] at x2 ⊢; exact x2
  · have hT : TB N P K 8 9 8 4 (nv (A 2)) := (hS.ri.2.1).of (fun j => (by rw [q_r68_n (by decide)] : K 8 j = q_r68 K A 8 j))
    rw [g] at hc0
    obtain ⟨x, x1, x2⟩ := c_take30 (A := A) hG hc h1 h4 hf (fun h => by omega) (t := 8) (c := 9) (wd := 4) (zn := zn) (by rw [g]; exact hT) (fun a1 a2 => by rw [g] at a1 a2 ⊢; exact c_add4 hG hS hc0 g a1 a2 hn) hn
    refine ⟨x, ?_, ?_⟩
    · unfold f_X10_take f_X10_tableOf
      rw [g] at x1 ⊢
      simp only [show (4 : Nat) - 1 = 3 from rfl] at x1 ⊢
      simp only [if_neg (show ¬ nI 3 = nI 0 by decide), if_neg (show ¬ nI 3 = nI 1 by decide), if_neg (show ¬ nI 3 = nI 2 by decide), gp_1_3 hG, Option.bind_some, if_neg (show ¬ nI 3 = 0 by decide)]
      exact x1
    · rw [g] at x2 ⊢; exact x2
theorem c_sortHere (hG : GW N P) (hX : q_TX N P K B s 56) (hi : i ≤ s) (hct : q_ct K B s 56 i) (hn : 600 < zn) : f_X10_sortHere zn N K P 55 = some (if 1 ≤ q_wo B s i ∧ q_wo B s i ≤ 4 then nI (q_wo B s i - 1) else -1) := by
  have w0 : f_X9_isWord zn N K P 56 1000100 = some (bI (decide (q_wo B s i = 1))) := c_isWord (j := 0) hX hi hct (by decide) hn
  have w1 : f_X9_isWord zn N K P 56 1000101 = some (bI (decide (q_wo B s i = 2))) := c_isWord (j := 1) hX hi hct (by decide) hn
  have w2 : f_X9_isWord zn N K P 56 1000102 = some (bI (decide (q_wo B s i = 3))) := c_isWord (j := 2) hX hi hct (by decide) hn
  have w3 : f_X9_isWord zn N K P 56 1000103 = some (bI (decide (q_wo B s i = 4))) := c_isWord (j := 3) hX hi hct (by decide) hn
  unfold f_X10_sortHere
  simp only [gp_55_0 hG, Option.bind_some, w0, w1, w2, w3]
  by_cases h0 : q_wo B s i = 1
  · rw [decide_eq_true h0, bI_ift, if_pos (by omega), h0]
  · rw [decide_eq_false h0, bI_iff]
    by_cases h1 : q_wo B s i = 2
    · rw [decide_eq_true h1, bI_ift, if_pos (by omega), h1]
    · rw [decide_eq_false h1, bI_iff]
      by_cases h2 : q_wo B s i = 3
      · rw [decide_eq_true h2, bI_ift, if_pos (by omega), h2]
      · rw [decide_eq_false h2, bI_iff]
        by_cases h3 : q_wo B s i = 4
        · rw [decide_eq_true h3, bI_ift, if_pos (by omega), h3]
        · rw [decide_eq_false h3, bI_iff, if_neg (by omega)]
end RLine
