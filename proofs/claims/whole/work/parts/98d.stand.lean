/-! who stands, what is a point: both say the same -/
def q_seeN (A : Nat → Int32) (s : Nat) : Bool := q_there A (A (120 + 8 * s + 4)) (A (120 + 8 * s + 5))
theorem n_sub1 {zc : Nat} (hc : zc < 100000) {zx : Int32} : nI zc - nI 1 < zx ↔ nI zc ≤ zx := by
  have e1 := pk_sub_toInt (a := zc) (b := 1) (by omega) (by decide)
  have e2 := nI_toInt (n := zc) (by omega)
  rw [Int32.lt_iff_toInt_lt, Int32.le_iff_toInt_le, e1, e2]
  omega
section Stand
variable {N : pN} {P : pR} {I : pI} {L : pL}
theorem m_isIn {zx zl zh : Int32} : f_X12_isIn zx zl zh = some (bI (!decide (zx < zl) && !decide (zh < zx))) := by
  unfold f_X12_isIn
  by_cases h1 : zx < zl
  · rw [if_pos h1, decide_eq_true h1]; rfl
  · rw [if_neg h1, decide_eq_false h1]
    by_cases h2 : zh < zx
    · rw [if_pos h2, decide_eq_true h2]; rfl
    · rw [if_neg h2, decide_eq_false h2]; rfl
/-- a number of a row: 0, 1 .. up to how many there are -/
theorem m_isOf (hG : GW N P) {zm zh : Nat} (hm : zm < 30) (hr : rg (I 68 zm) zh) (hh : zh < 100000) {zx : Int32} : f_X12_isOf N I P 67 zx (nI zm) = some (bI (!decide (zx < 0) && !decide (I 68 zm ≤ zx))) := by
  have e1 : (nI 0 : Int32) = 0 := rfl
  have h9 : (I 68 zm - nI 1 < zx) ↔ (I 68 zm ≤ zx) := by
    rw [hr.1]
    exact n_sub1 (by have := hr.2; omega)
  unfold f_X12_isOf
  rw [gp_67_0 hG, Option.bind_some, n_ck (ib_68 hG (by omega)), nI_clamp (by omega)]
  show Option.bind (f_X12_isIn zx 0 (I 68 zm - nI 1)) _ = _
  rw [m_isIn, Option.bind_some, n_ck (bI_ck _), decide_eq_decide.mpr h9]
theorem m_sees (hG : GW N P) (hr : rg (I 68 1) 6) {zs : Nat} (hs : zs < nv (I 68 1)) : f_X12_seesSender N I P 67 (nI zs) = some (bI (q_seeN (I 68) zs)) := by
  have h6 := hr.2
  have h1 : ¬ nI zs < 0 := nI_pos (by omega)
  have h2 : ¬ I 68 1 ≤ nI zs := by rw [hr.1]; exact nI_ge hs (by omega)
  unfold f_X12_seesSender q_seeN
  rw [m_isOf hG (by decide) hr (by decide), Option.bind_some, decide_eq_false h1, decide_eq_false h2]
  show (if bI true = 0 then _ else _) = _
  rw [bI_ift, m_senderOf hG (by omega) (by decide), Option.bind_some, m_senderOf hG (by omega) (by decide), Option.bind_some, m_isThere hG, Option.bind_some, bI_if]
  cases q_there (I 68) (I 68 (120 + 8 * zs + 4)) (I 68 (120 + 8 * zs + 5)) <;> rfl
theorem m_sees_n (hG : GW N P) (hr : rg (I 68 1) 6) {zx : Int32} (hx : zx < 0 ∨ I 68 1 ≤ zx) : f_X12_seesSender N I P 67 zx = some (nI 0) := by
  unfold f_X12_seesSender
  rw [m_isOf hG (by decide) hr (by decide), Option.bind_some]
  have h1 : (!decide (zx < 0) && !decide (I 68 1 ≤ zx)) = false := by
    rcases hx with hx | hx
    · rw [decide_eq_true hx]; rfl
    · rw [decide_eq_true hx, Bool.not_true, Bool.and_false]
  rw [h1, bI_iff]
theorem c_isKnown (hF : R_flds I 1 0) {za zb : Int32} (hb : zb = -1 ∨ rg zb 999) : f_X7_isKnown I 1 za zb = some (bI (q_there (I 68) za zb)) := by
  obtain ⟨f9, f10, f11, f12, f4, f5⟩ := hF
  have e11 : I 1 11 = I 68 4 := f11
  have e12 : I 1 12 = I 68 5 := f12
  have hz : (zb = -1) ↔ (zb < 0) := by
    constructor
    · intro h; rw [h]; decide
    · intro h
      rcases hb with hb | hb
      · exact hb
      · rw [hb.1] at h
        exact absurd h (nI_pos (by have := hb.2; omega))
  unfold f_X7_isKnown q_there q_til
  rw [n_let, e11, e12]
  generalize (if I 68 5 = -1 then I 68 4 else I 68 5) = zt
  by_cases h1 : zt < za
  · rw [if_pos h1, if_pos h1]; rfl
  · rw [if_neg h1, if_neg h1]
    by_cases h2 : zb = -1
    · rw [if_pos h2, if_pos (hz.mp h2)]; rfl
    · rw [if_neg h2, if_neg (fun h => h2 (hz.mpr h))]
      by_cases h3 : zb ≤ zt
      · rw [if_pos h3, if_pos h3]; rfl
      · rw [if_neg h3, if_neg h3]; rfl
theorem c_stands (hG : GW N P) (hS : R_senders N P I 1 0) (hF : R_flds I 1 0) {zs : Nat} (hs : zs < nv (I 68 1)) : f_X7_senderStands N I P 1 (nI zs) = some (bI (q_seeN (I 68) zs)) := by
  obtain ⟨r1, t1, c1⟩ := hS
  have t1' : TB N P I 6 7 6 8 (nv (I 68 1)) := t1
  have c2 := c1 zs hs
  have e4 : I 7 (zs * 8 + 4) = I 68 (120 + 8 * zs + 4) := c2.1 4 (by decide)
  have e5 : I 7 (zs * 8 + 5) = I 68 (120 + 8 * zs + 5) := c2.1 5 (by decide)
  have hw5 : I 68 (120 + 8 * zs + 5) = -1 ∨ rg (I 68 (120 + 8 * zs + 5)) 999 := c2.2.2.2.2.2.2.2.1
  unfold f_X7_senderStands q_seeN
  rw [gp_1_2 hG, Option.bind_some, tb_has t1' hs, Option.bind_some, if_neg (by decide), Option.bind_some, tb_get t1' hs (show 4 < 8 by decide), Option.bind_some, Option.bind_some, tb_get t1' hs (show 5 < 8 by decide), Option.bind_some, e4, e5, c_isKnown hF hw5, Option.bind_some, bI_if]
  cases q_there (I 68) (I 68 (120 + 8 * zs + 4)) (I 68 (120 + 8 * zs + 5)) <;> rfl
theorem c_stands_n (hG : GW N P) (hS : R_senders N P I 1 0) {zx : Int32} (hx : zx < 0 ∨ I 68 1 ≤ zx) : f_X7_senderStands N I P 1 zx = some (nI 0) := by
  obtain ⟨r1, t1, c1⟩ := hS
  have t1' : TB N P I 6 7 6 8 (nv (I 68 1)) := t1
  have r1' : rg (I 68 1) 6 := r1
  unfold f_X7_senderStands
  rw [gp_1_2 hG, Option.bind_some, tb_has_n t1' (by rw [← r1'.1]; exact hx), Option.bind_some, if_pos (by decide)]
def q_pt (x y : Int32) : Bool := !decide (x < 0) && (!decide (nI 21 ≤ x) && (!decide (y < 0) && !decide (nI 21 ≤ y)))
theorem c_point {zx zy : Int32} : f_X11_isPoint zx zy = some (bI (q_pt zx zy)) := by
  unfold f_X11_isPoint q_pt
  by_cases h1 : zx < 0
  · rw [if_pos h1, decide_eq_true h1]; rfl
  · rw [if_neg h1, decide_eq_false h1]
    by_cases h2 : nI 21 ≤ zx
    · rw [if_pos h2, decide_eq_true h2]; rfl
    · rw [if_neg h2, decide_eq_false h2]
      by_cases h3 : zy < 0
      · rw [if_pos h3, decide_eq_true h3]; rfl
      · rw [if_neg h3, decide_eq_false h3]
        by_cases h4 : nI 21 ≤ zy
        · rw [if_pos h4, decide_eq_true h4]; rfl
        · rw [if_neg h4, decide_eq_false h4]; rfl
theorem n_20 {zx : Int32} : (nI 20 < zx) ↔ (nI 21 ≤ zx) := by
  have e1 : (nI 20).toInt = 20 := by decide
  have e2 : (nI 21).toInt = 21 := by decide
  rw [Int32.lt_iff_toInt_lt, Int32.le_iff_toInt_le, e1, e2]
  omega
theorem m_point {zx zy : Int32} : f_X12_isPoint zx zy = some (bI (q_pt zx zy)) := by
  unfold f_X12_isPoint q_pt
  have h0 : (nI 0 : Int32) = 0 := rfl
  rw [m_isIn, Option.bind_some, m_isIn, Option.bind_some, h0, decide_eq_decide.mpr n_20, decide_eq_decide.mpr n_20, bI_if, bI_if]
  cases decide (zx < 0) <;> cases decide (nI 21 ≤ zx) <;> cases decide (zy < 0) <;> cases decide (nI 21 ≤ zy) <;> rfl
theorem q_ptx {zx zy : Int32} (h1 : q_pt zx zy = true) : ∃ ax ay : Nat, ax ≤ 20 ∧ ay ≤ 20 ∧ zx = nI ax ∧ zy = nI ay := by
  unfold q_pt at h1
  simp only [Bool.and_eq_true, Bool.not_eq_true', decide_eq_false_iff_not] at h1
  obtain ⟨a1, a2, a3, a4⟩ := h1
  rcases pk_ix zx (n := 21) (by decide) with h | h | ⟨ax, h, ex⟩
  · exact absurd h a1
  · exact absurd h a2
  · rcases pk_ix zy (n := 21) (by decide) with g | g | ⟨ay, g, ey⟩
    · exact absurd g a3
    · exact absurd g a4
    · exact ⟨ax, ay, by omega, by omega, ex, ey⟩
end Stand
