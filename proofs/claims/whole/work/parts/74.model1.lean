/-! the reference: walls, sides, crossings, legs -/
def bI (b : Bool) : Int32 := if b = true then nI 1 else nI 0
theorem bI_ck (b : Bool) : decide (bI b = 0 ∨ bI b = 1) = true := by cases b <;> decide
theorem bI_0 (b : Bool) : (bI b = 0) = (b = false) := by cases b <;> simp [bI] <;> decide
theorem bI_iff {β : Type} {zx zy : β} : (if bI false = 0 then zx else zy) = zx := if_pos rfl
theorem bI_ift {β : Type} {zx zy : β} : (if bI true = 0 then zx else zy) = zy := if_neg (by decide)
theorem bI_if {β : Type} {zb : Bool} {zx zy : β} : (if bI zb = 0 then zx else zy) = if zb = true then zy else zx := by
  cases zb
  · rw [bI_iff, if_neg (by decide)]
  · rw [bI_ift, if_pos rfl]
theorem bI_t : bI true = nI 1 := rfl
theorem bI_f : bI false = nI 0 := rfl
theorem q_nlt {x y : Int64} : y ≤ x ↔ ¬ x < y := by rw [Int64.le_iff_toInt_le, Int64.lt_iff_toInt_lt]; omega
section Model1
variable {N : pN} {P : pR} {I : pI} {L : pL}
theorem ib_68 (hG : GW N P) {zk : Nat} (hz : zk < 4640) : p_ib N 68 (nI zk) = true := n_ib (gn_68 hG) hz (by decide)
theorem m_wallOf (hG : GW N P) {zw zk : Nat} (hw : zw < 12) (hk : zk < 7) : f_X12_wallOf N I P 67 (nI zw) (nI zk) = some (q_w (I 68) zw zk) := by
  have e1 : nI 30 + nI 7 * nI zw + nI zk = nI (30 + 7 * zw + zk) := by rw [pk_mul, nI_add, nI_add]
  unfold f_X12_wallOf q_w
  rw [gp_67_0 hG, Option.bind_some, e1, n_ck (ib_68 hG (by omega)), nI_clamp (by omega)]
theorem m_isThere (hG : GW N P) {za zb : Int32} : f_X12_isThere N I P 67 za zb = some (bI (q_there (I 68) za zb)) := by
  have i5 : p_ib N 68 (nI 5) = true := ib_68 hG (by decide)
  have i4 : p_ib N 68 (nI 4) = true := ib_68 hG (by decide)
  have c5 : Int32.toNatClampNeg (nI 5) = 5 := by decide
  have c4 : Int32.toNatClampNeg (nI 4) = 4 := by decide
  unfold f_X12_isThere q_there q_til
  rw [gp_67_0 hG]
  simp only [Option.bind_some, n_ck i5, n_ck i4, c5, c4]
  by_cases h5 : I 68 5 = -1
  · simp only [if_pos h5, Option.bind_some]
    by_cases h6 : I 68 4 < za
    · simp only [if_pos h6]; rfl
    · simp only [if_neg h6]
      by_cases h7 : zb < 0
      · simp only [if_pos h7]; rfl
      · simp only [if_neg h7]
        by_cases h8 : zb ≤ I 68 4
        · simp only [if_pos h8]; rfl
        · simp only [if_neg h8]; rfl
  · simp only [if_neg h5, Option.bind_some]
    by_cases h6 : I 68 5 < za
    · simp only [if_pos h6]; rfl
    · simp only [if_neg h6]
      by_cases h7 : zb < 0
      · simp only [if_pos h7]; rfl
      · simp only [if_neg h7]
        by_cases h8 : zb ≤ I 68 5
        · simp only [if_pos h8]; rfl
        · simp only [if_neg h8]; rfl
theorem m_seesWall (hG : GW N P) {zw : Nat} (hw : zw < 12) : f_X12_seesWall N I P 67 (nI zw) = some (bI (q_there (I 68) (q_w (I 68) zw 5) (q_w (I 68) zw 6))) := by
  unfold f_X12_seesWall
  rw [m_wallOf hG hw (by decide), Option.bind_some, m_wallOf hG hw (by decide), Option.bind_some, m_isThere hG, Option.bind_some, n_ck (bI_ck _)]
theorem m_isUpright (hG : GW N P) {zw : Nat} (hw : zw < 12) : f_X12_isUpright N I P 67 (nI zw) = some (bI (q_up (I 68) zw)) := by
  unfold f_X12_isUpright q_up
  rw [m_wallOf hG hw (by decide), Option.bind_some, m_wallOf hG hw (by decide), Option.bind_some]
  by_cases h1 : q_w (I 68) zw 0 = q_w (I 68) zw 2
  · rw [if_pos h1, decide_eq_true h1]; rfl
  · rw [if_neg h1, decide_eq_false h1]; rfl
theorem m_side (hG : GW N P) {zw : Nat} (hw : zw < 12) {zx zy zp : Int64} : f_X12_side N I P 67 (nI zw) zx zy zp = some (q_side (I 68) zw zx zy zp) := by
  unfold f_X12_side q_side
  rw [m_isUpright hG hw, Option.bind_some, m_wallOf hG hw (by decide), Option.bind_some, m_wallOf hG hw (by decide), Option.bind_some]
  cases q_up (I 68) zw with
  | false => rw [bI_iff, if_neg (by decide)]
  | true => rw [bI_ift, if_pos rfl]
theorem m_size {zx : Int64} : f_X12_size zx = some (q_abs zx) := by
  unfold f_X12_size q_abs
  by_cases h1 : 0 ≤ zx
  · rw [if_pos h1, if_pos h1]
  · rw [if_neg h1, if_neg h1]
theorem m_opp {zx zy : Int64} : f_X12_areOpposite zx zy = some (bI (q_opp zx zy)) := by
  unfold f_X12_areOpposite q_opp
  simp only [q_nlt]
  by_cases h1 : zx < 0 <;> by_cases h2 : 0 < zx <;> by_cases h3 : zy < 0 <;> by_cases h4 : 0 < zy <;> simp [h1, h2, h3, h4, bI]
theorem m_alk {zx zy : Int64} : f_X12_areAlike zx zy = some (bI (q_alk zx zy)) := by
  unfold f_X12_areAlike q_alk
  simp only [q_nlt]
  by_cases h1 : zx < 0 <;> by_cases h2 : 0 < zx <;> by_cases h3 : zy < 0 <;> by_cases h4 : 0 < zy <;> simp [h1, h2, h3, h4, bI]
/-- where a crossing is kept -/
def q_putO (L : pL) (o : qP) : pL := p_u (p_u (p_u L 67 2 o.1) 67 3 o.2.1) 67 4 o.2.2
theorem q_putO_1 {o : qP} : q_putO L o 67 2 = o.1 := by simp [q_putO, p_u]
theorem q_putO_2 {o : qP} : q_putO L o 67 3 = o.2.1 := by simp [q_putO, p_u]
theorem q_putO_3 {o : qP} : q_putO L o 67 4 = o.2.2 := by simp [q_putO, p_u]
theorem q_putO_n {o : qP} {za : Nat} (ha : za ≠ 67) : q_putO L o za = L za := by
  unfold q_putO
  rw [p_u_ne ha, p_u_ne ha, p_u_ne ha]
theorem q_putO_5 {o : qP} : q_putO L o 67 5 = L 67 5 := by simp [q_putO, p_u]
theorem m_crosses (hG : GW N P) {zw : Nat} (hw : zw < 12) {x1 y1 p1 x2 y2 p2 : Int64} : f_X12_crosses N I L P 67 (nI zw) x1 y1 p1 x2 y2 p2 = some (bI (q_hit (I 68) zw (q_over (I 68) zw (x1, y1, p1) (x2, y2, p2))), q_putO L (q_over (I 68) zw (x1, y1, p1) (x2, y2, p2))) := by
  unfold f_X12_crosses
  rw [m_side hG hw, Option.bind_some, m_size, Option.bind_some, m_side hG hw, Option.bind_some, m_size, Option.bind_some, n_let, n_let, n_let, m_isUpright hG hw, Option.bind_some]
  have eo : p_u (p_u (p_u L 67 2 (x1 * q_abs (q_side (I 68) zw x2 y2 p2) + x2 * q_abs (q_side (I 68) zw x1 y1 p1))) 67 3 (y1 * q_abs (q_side (I 68) zw x2 y2 p2) + y2 * q_abs (q_side (I 68) zw x1 y1 p1))) 67 4 (p1 * q_abs (q_side (I 68) zw x2 y2 p2) + p2 * q_abs (q_side (I 68) zw x1 y1 p1)) = q_putO L (q_over (I 68) zw (x1, y1, p1) (x2, y2, p2)) := rfl
  rw [eo]
  generalize q_over (I 68) zw (x1, y1, p1) (x2, y2, p2) = zo
  rw [q_putO_1, q_putO_2, q_putO_3]
  unfold q_hit
  cases q_up (I 68) zw with
  | false =>
    rw [bI_iff, m_wallOf hG hw (by decide), Option.bind_some]
    by_cases h1 : zo.1 < (q_w (I 68) zw 0).toInt64 * zo.2.2
    · rw [if_pos h1, decide_eq_true h1]; rfl
    · rw [if_neg h1, decide_eq_false h1, m_wallOf hG hw (by decide), Option.bind_some]
      by_cases h2 : (q_w (I 68) zw 2).toInt64 * zo.2.2 < zo.1
      · rw [if_pos h2, decide_eq_true h2]; rfl
      · rw [if_neg h2, decide_eq_false h2]; rfl
  | true =>
    rw [bI_ift, m_wallOf hG hw (by decide), Option.bind_some, if_pos rfl]
    by_cases h1 : zo.2.1 < (q_w (I 68) zw 1).toInt64 * zo.2.2
    · rw [if_pos h1, decide_eq_true h1]; rfl
    · rw [if_neg h1, decide_eq_false h1, m_wallOf hG hw (by decide), Option.bind_some]
      by_cases h2 : (q_w (I 68) zw 3).toInt64 * zo.2.2 < zo.2.1
      · rw [if_pos h2, decide_eq_true h2]; rfl
      · rw [if_neg h2, decide_eq_false h2]; rfl
end Model1
