/-! the class: barriers, crossings, what a leg leaves -/
def c_pt (L : pL) (a : Nat) : qP := (L a 0, L a 1, L a 2)
def c_putO (L : pL) (a : Nat) (o : qP) : pL := p_u (p_u (p_u L a 0 o.1) a 1 o.2.1) a 2 o.2.2
theorem c_putO_0 {L : pL} {za : Nat} {o : qP} : c_putO L za o za 0 = o.1 := by simp [c_putO, p_u]
theorem c_putO_1 {L : pL} {za : Nat} {o : qP} : c_putO L za o za 1 = o.2.1 := by simp [c_putO, p_u]
theorem c_putO_2 {L : pL} {za : Nat} {o : qP} : c_putO L za o za 2 = o.2.2 := by simp [c_putO, p_u]
theorem c_putO_n {L : pL} {za zx : Nat} {o : qP} (hx1 : zx ≠ za) : c_putO L za o zx = L zx := by
  unfold c_putO
  rw [p_u_ne hx1, p_u_ne hx1, p_u_ne hx1]
theorem c_pt_s {L : pL} {za : Nat} {o : qP} : c_pt (c_putO L za o) za = o := by
  unfold c_pt
  rw [c_putO_0, c_putO_1, c_putO_2]
theorem c_pt_n {L : pL} {za zx : Nat} {o : qP} (hx1 : zx ≠ za) : c_pt (c_putO L za o) zx = c_pt L zx := by
  unfold c_pt
  rw [c_putO_n hx1]
/-- a barrier at b is wall w -/
def q_bar (I : pI) (T : Nat → Int32) (w b : Nat) : Prop := I b 0 = nI w ∧ I b 3 = bI (q_up T w) ∧ I b 4 = (if q_up T w = true then q_w T w 0 else q_w T w 1) ∧ I b 5 = (if q_up T w = true then q_w T w 1 else q_w T w 0) ∧ I b 6 = (if q_up T w = true then q_w T w 3 else q_w T w 2) ∧ I b 7 = q_bck T w ∧ I b 8 = q_thr T w
def c_ov (L : pL) (a1 a2 : Nat) (x4 x6 : Int64) : qP := (L a1 0 * q_abs x6 + L a2 0 * q_abs x4, L a1 1 * q_abs x6 + L a2 1 * q_abs x4, L a1 2 * q_abs x6 + L a2 2 * q_abs x4)
section Class1
variable {I : pI} {L : pL} {T : Nat → Int32} {zw zb a1 a2 a3 : Nat}
theorem c_92 (hb : q_bar I T zw zb) (h13 : a1 ≠ a3) (h23 : a2 ≠ a3) {x6 x4 : Int64} : J_X0_meets_92 I L x6 x4 zb a1 a2 a3 = some (bI (q_hit T zw (c_ov L a1 a2 x4 x6)), c_putO L a3 (c_ov L a1 a2 x4 x6)) := by
  obtain ⟨b0, b3, b4, b5, b6, b7, b8⟩ := hb
  have e9 : (if 0 ≤ x6 then x6 else -x6) = q_abs x6 := rfl
  have e11 : (if 0 ≤ x4 then x4 else -x4) = q_abs x4 := rfl
  unfold J_X0_meets_92
  simp only [n_let]
  rw [e9, e11]
  have eo : p_u (p_u (p_u L a3 0 (L a1 0 * q_abs x6 + L a2 0 * q_abs x4)) a3 1 (p_u L a3 0 (L a1 0 * q_abs x6 + L a2 0 * q_abs x4) a1 1 * q_abs x6 + p_u L a3 0 (L a1 0 * q_abs x6 + L a2 0 * q_abs x4) a2 1 * q_abs x4)) a3 2 (p_u (p_u L a3 0 (L a1 0 * q_abs x6 + L a2 0 * q_abs x4)) a3 1 (p_u L a3 0 (L a1 0 * q_abs x6 + L a2 0 * q_abs x4) a1 1 * q_abs x6 + p_u L a3 0 (L a1 0 * q_abs x6 + L a2 0 * q_abs x4) a2 1 * q_abs x4) a1 2 * q_abs x6 + p_u (p_u L a3 0 (L a1 0 * q_abs x6 + L a2 0 * q_abs x4)) a3 1 (p_u L a3 0 (L a1 0 * q_abs x6 + L a2 0 * q_abs x4) a1 1 * q_abs x6 + p_u L a3 0 (L a1 0 * q_abs x6 + L a2 0 * q_abs x4) a2 1 * q_abs x4) a2 2 * q_abs x4) = c_putO L a3 (c_ov L a1 a2 x4 x6) := by
    simp only [p_u_ne h13, p_u_ne h23]
    rfl
  rw [eo]
  generalize c_ov L a1 a2 x4 x6 = zo
  rw [c_putO_0, c_putO_1, c_putO_2, b3, bI_if, b5, b6]
  unfold q_hit
  cases q_up T zw with
  | false =>
    simp only [Bool.false_eq_true, if_false]
    by_cases h1 : zo.1 < (q_w T zw 0).toInt64 * zo.2.2
    · rw [if_pos h1, decide_eq_true h1]; rfl
    · rw [if_neg h1, decide_eq_false h1]
      by_cases h2 : (q_w T zw 2).toInt64 * zo.2.2 < zo.1
      · rw [if_pos h2, decide_eq_true h2]; rfl
      · rw [if_neg h2, decide_eq_false h2]; rfl
  | true =>
    simp only [if_true]
    by_cases h1 : zo.2.1 < (q_w T zw 1).toInt64 * zo.2.2
    · rw [if_pos h1, decide_eq_true h1]; rfl
    · rw [if_neg h1, decide_eq_false h1]
      by_cases h2 : (q_w T zw 3).toInt64 * zo.2.2 < zo.2.1
      · rw [if_pos h2, decide_eq_true h2]; rfl
      · rw [if_neg h2, decide_eq_false h2]; rfl
theorem c_meets (hb : q_bar I T zw zb) (h13 : a1 ≠ a3) (h23 : a2 ≠ a3) : f_X0_meets I L zb a1 a2 a3 = some (bI (q_meet T zw (c_pt L a1) (c_pt L a2)), if q_opp (q_side T zw (L a1 0) (L a1 1) (L a1 2)) (q_side T zw (L a2 0) (L a2 1) (L a2 2)) = true then c_putO L a3 (q_over T zw (c_pt L a1) (c_pt L a2)) else L) := by
  have b3 := hb.2.1
  have b4 := hb.2.2.1
  have s1 : (if I zb 3 = 0 then L a1 1 else L a1 0) - (I zb 4).toInt64 * L a1 2 = q_side T zw (L a1 0) (L a1 1) (L a1 2) := by
    rw [b3, bI_if, b4]
    unfold q_side
    cases q_up T zw <;> simp
  have s2 : (if I zb 3 = 0 then L a2 1 else L a2 0) - (I zb 4).toInt64 * L a2 2 = q_side T zw (L a2 0) (L a2 1) (L a2 2) := by
    rw [b3, bI_if, b4]
    unfold q_side
    cases q_up T zw <;> simp
  unfold f_X0_meets
  simp only [n_let]
  rw [s1, s2]
  have eo : c_ov L a1 a2 (q_side T zw (L a1 0) (L a1 1) (L a1 2)) (q_side T zw (L a2 0) (L a2 1) (L a2 2)) = q_over T zw (c_pt L a1) (c_pt L a2) := rfl
  have em : q_meet T zw (c_pt L a1) (c_pt L a2) = (q_opp (q_side T zw (L a1 0) (L a1 1) (L a1 2)) (q_side T zw (L a2 0) (L a2 1) (L a2 2)) && q_hit T zw (q_over T zw (c_pt L a1) (c_pt L a2))) := rfl
  rw [em]
  unfold J_X0_meets_76
  simp only [c_92 hb h13 h23, eo]
  generalize q_side T zw (L a1 0) (L a1 1) (L a1 2) = zx
  generalize q_side T zw (L a2 0) (L a2 1) (L a2 2) = zy
  generalize q_hit T zw (q_over T zw (c_pt L a1) (c_pt L a2)) = zh
  unfold q_opp
  simp only [q_nlt]
  by_cases h1 : zx < 0 <;> by_cases h2 : 0 < zx <;> by_cases h3 : zy < 0 <;> by_cases h4 : 0 < zy <;> first | (exfalso; have := Int64.lt_iff_toInt_lt.mp h1; have := Int64.lt_iff_toInt_lt.mp h2; omega) | (exfalso; have := Int64.lt_iff_toInt_lt.mp h3; have := Int64.lt_iff_toInt_lt.mp h4; omega) | simp [h1, h2, h3, h4, bI]
end Class1
