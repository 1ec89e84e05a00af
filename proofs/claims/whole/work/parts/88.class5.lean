/-! mirrors: an image lies as far behind the wall as the place before it -/
theorem sb_neg {x : Int64} {m : Int} (h1 : sb x m) (hm : m < 2 ^ 62) : (-x).toInt = -x.toInt ∧ sb (-x) m := by
  obtain ⟨a1, a2⟩ := h1
  have e : (-x).toInt = -x.toInt := by
    rw [Int64.toInt_neg, Int.bmod_def]
    omega
  exact ⟨e, by unfold sb; rw [e]; omega⟩
theorem q_flip {zs zt : Int64} (h1 : sb zs 100000) : q_opp (-zs) zt = q_alk zs zt := by
  have e := (sb_neg h1 (by decide)).1
  have i1 : (-zs < 0) ↔ (0 < zs) := by
    rw [Int64.lt_iff_toInt_lt, Int64.lt_iff_toInt_lt, e]
    show -zs.toInt < 0 ↔ 0 < zs.toInt
    omega
  have i2 : (0 < -zs) ↔ (zs < 0) := by
    rw [Int64.lt_iff_toInt_lt, Int64.lt_iff_toInt_lt, e]
    show 0 < -zs.toInt ↔ zs.toInt < 0
    omega
  unfold q_opp q_alk
  rw [decide_eq_decide.mpr i1, decide_eq_decide.mpr i2, Bool.or_comm]
theorem i64_ring {za zx : Int64} : 2 * za - zx - za * 1 = -(zx - za * 1) := by grind
section Class5
variable {T : Nat → Int32} {zw : Nat} {zx zy : Int64}
theorem q_neg_side : q_side T zw (q_mx T zw zx) (q_my T zw zy) 1 = -(q_side T zw zx zy 1) := by
  unfold q_side q_mx q_my
  cases q_up T zw with
  | false => simp only [Bool.false_eq_true, if_false]; exact i64_ring
  | true => simp only [if_true]; exact i64_ring
theorem sb_side {m : Int} (hr : ∀ zk, zk < 4 → rg (q_w T zw zk) 20) (h1 : sb zx m) (h2 : sb zy m) (hm : m < 100000) : sb (q_side T zw zx zy 1) (m + 20) := by
  unfold q_side
  have b0 := (sb_rg (hr 0 (by decide)) (by decide)).2
  have b1 := (sb_rg (hr 1 (by decide)) (by decide)).2
  rw [Int64.mul_one, Int64.mul_one]
  split
  · exact (sb_sub h1 b0 (by omega)).2
  · exact (sb_sub h2 b1 (by omega)).2
theorem sb_mx {m : Int} (hr : ∀ zk, zk < 4 → rg (q_w T zw zk) 20) (h1 : sb zx m) (hm : m < 100000) : sb (q_mx T zw zx) (m + 40) := by
  unfold q_mx
  have b0 := sb_rg (hr 0 (by decide)) (by decide)
  have h2 : sb 2 2 := ⟨by decide, by decide⟩
  split
  · have h3 := (sb_sub (sb_mul h2 b0.2 (by decide) (by decide) (by decide)).2 h1 (by omega)).2
    obtain ⟨c1, c2⟩ := h3
    exact ⟨by omega, by omega⟩
  · obtain ⟨c1, c2⟩ := h1
    exact ⟨by omega, by omega⟩
theorem sb_my {m : Int} (hr : ∀ zk, zk < 4 → rg (q_w T zw zk) 20) (h1 : sb zy m) (hm : m < 100000) : sb (q_my T zw zy) (m + 40) := by
  unfold q_my
  have b0 := sb_rg (hr 1 (by decide)) (by decide)
  have h2 : sb 2 2 := ⟨by decide, by decide⟩
  split
  · obtain ⟨c1, c2⟩ := h1
    exact ⟨by omega, by omega⟩
  · have h3 := (sb_sub (sb_mul h2 b0.2 (by decide) (by decide) (by decide)).2 h1 (by omega)).2
    obtain ⟨c1, c2⟩ := h3
    exact ⟨by omega, by omega⟩
/-- a wall is met by the way from an image just where it throws back -/
theorem q_meet_img {zt : qP} (hr : ∀ zk, zk < 4 → rg (q_w T zw zk) 20) {m : Int} (h1 : sb zx m) (h2 : sb zy m) (hm : m < 50000) : q_meet T zw (q_mx T zw zx, q_my T zw zy, 1) zt = (q_alk (q_side T zw zx zy 1) (q_side T zw zt.1 zt.2.1 zt.2.2) && q_hit T zw (q_over T zw (q_mx T zw zx, q_my T zw zy, 1) zt)) := by
  unfold q_meet
  dsimp only
  have hb := sb_side hr h1 h2 (by omega)
  rw [q_neg_side, q_flip ⟨by have := hb.1; omega, by have := hb.2; omega⟩]
end Class5
/-- a spot is mirrored -/
theorem c_mirror {I : pI} {L : pL} {T : Nat → Int32} {zw zb a0 a1 : Nat} (hb : q_bar I T zw zb) (h01 : a1 ≠ a0) (hw1 : L a1 2 = 1) : f_X6_mirror I L a0 a1 zb = some (c_putO L a0 (q_mx T zw (L a1 0), q_my T zw (L a1 1), 1)) := by
  obtain ⟨b0, b3, b4, b5, b6, b7, b8⟩ := hb
  unfold f_X6_mirror q_mx q_my
  simp only [n_let, p_u_ne h01, hw1]
  rw [b3, bI_if, bI_if, b4]
  cases q_up T zw with
  | false => simp only [Bool.false_eq_true, if_false, Int64.mul_one]; rfl
  | true => simp only [if_true, Int64.mul_one]; rfl
theorem c_mirror_any {I : pI} {L : pL} {zb a0 a1 : Nat} : ∃ K, f_X6_mirror I L a0 a1 zb = some K ∧ ∀ zx, zx ≠ a0 → K zx = L zx := by
  refine ⟨_, rfl, fun zx hx => ?_⟩
  rw [p_u_ne hx, p_u_ne hx, p_u_ne hx]
