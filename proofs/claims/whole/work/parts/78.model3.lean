/-! the reference: ways come into its rows -/
def q_MR (I : pI) (l : List qW) : Prop := I 67 13 = nI l.length ∧ ∀ zi zq, l[zi]? = some zq → I 70 zi = zq.1 ∧ I 71 zi = zq.2.1 ∧ I 72 zi = zq.2.2.1 ∧ I 73 zi = zq.2.2.2.1 ∧ I 74 zi = zq.2.2.2.2.1 ∧ I 75 zi = zq.2.2.2.2.2
def q_mFr (I J : pI) : Prop := (∀ zx, zx ≠ 67 → zx < 70 ∨ 75 < zx → J zx = I zx) ∧ ∀ zj, zj ≠ 6 → zj ≠ 13 → J 67 zj = I 67 zj
theorem q_mFr.rf {I : pI} : q_mFr I I := ⟨fun _ _ _ => rfl, fun _ _ _ => rfl⟩
theorem q_mFr.tr {I J K : pI} (h1 : q_mFr I J) (h2 : q_mFr J K) : q_mFr I K := ⟨fun zx hx hy => (h2.1 zx hx hy).trans (h1.1 zx hx hy), fun zj hx hy => (h2.2 zj hx hy).trans (h1.2 zj hx hy)⟩
theorem q_mFr.b {I : pI} {zv : Int32} : q_mFr I (p_u I 67 6 zv) := ⟨fun zx hx _ => p_u_ne hx, fun zj hx _ => p_u_nk hx⟩
theorem q_mFr.t {I J : pI} (h1 : q_mFr I J) : J 68 = I 68 := h1.1 68 (by decide) (Or.inl (by decide))
theorem q_add_nil {l : List qW} {zk zf zg : Int32} {za zc : Int64} {zs : Int64 × Bool} : q_add l zk zf zg za zc zs = l ++ q_add [] zk zf zg za zc zs := by
  unfold q_add
  by_cases h1 : zs.2 = true
  · rw [if_pos h1, if_pos h1, List.append_nil]
  · rw [if_neg h1, if_neg h1, List.nil_append]
theorem q_MR.b {I : pI} {l : List qW} {zv : Int32} (h1 : q_MR I l) : q_MR (p_u I 67 6 zv) l := by
  refine ⟨by rw [p_u_nk (by decide)]; exact h1.1, fun zi zq hq => ?_⟩
  rw [p_u_ne (by decide), p_u_ne (by decide), p_u_ne (by decide), p_u_ne (by decide), p_u_ne (by decide), p_u_ne (by decide)]
  exact h1.2 zi zq hq
section Model3
variable {N : pN} {P : pR} {I : pI} {L : pL}
theorem m_adds (hG : GW N P) {l : List qW} (hM : q_MR I l) (hlen : l.length < 200) {zb : Bool} {zf : Int64} (hb : I 67 6 = bI zb) (hf : L 67 5 = zf) {k1 f1 g1 : Int32} {a1 c1 : Int64} : ∃ J, f_X12_adds N I L P 67 k1 f1 g1 a1 c1 = some J ∧ q_MR J (q_add l k1 f1 g1 a1 c1 (zf, zb)) ∧ q_mFr I J := by
  cases zb with
  | true =>
    refine ⟨I, ?_, ?_, q_mFr.rf⟩
    · unfold f_X12_adds
      rw [hb, bI_ift]
    · unfold q_add
      exact hM
  | false =>
    have hm : l.length < 2 ^ 31 := by omega
    have hw : q_add l k1 f1 g1 a1 c1 (zf, false) = l ++ [(k1, f1, g1, a1.toInt32, c1.toInt32, zf.toInt32)] := rfl
    rw [hw]
    refine ⟨p_u (p_u (p_u (p_u (p_u (p_u (p_u I 70 l.length k1) 71 l.length f1) 72 l.length g1) 73 l.length a1.toInt32) 74 l.length c1.toInt32) 75 l.length zf.toInt32) 67 13 (nI (l.length + 1)), ?_, ⟨?_, ?_⟩, ?_, ?_⟩
    · unfold f_X12_adds
      rw [hb, bI_iff, gp_67_7 hG, gp_67_8 hG, gp_67_9 hG, gp_67_10 hG, gp_67_11 hG, gp_67_12 hG]
      simp only [Option.bind_some, n_let, p_u_ne (show (67 : Nat) ≠ 70 by decide), p_u_ne (show (67 : Nat) ≠ 71 by decide), p_u_ne (show (67 : Nat) ≠ 72 by decide), p_u_ne (show (67 : Nat) ≠ 73 by decide), p_u_ne (show (67 : Nat) ≠ 74 by decide), p_u_ne (show (67 : Nat) ≠ 75 by decide), hM.1, nI_clamp hm, n_ck (n_ib (gn_70 hG) hlen (by decide)), n_ck (n_ib (gn_71 hG) hlen (by decide)), n_ck (n_ib (gn_72 hG) hlen (by decide)), n_ck (n_ib (gn_73 hG) hlen (by decide)), n_ck (n_ib (gn_74 hG) hlen (by decide)), n_ck (n_ib (gn_75 hG) hlen (by decide)), hf, nI_add]
    · rw [p_u_self, List.length_append]
      rfl
    · intro zi zq hq
      by_cases hlt : zi < l.length
      · rw [List.getElem?_append_left hlt] at hq
        have hne : zi ≠ l.length := by omega
        have h0 := hM.2 zi zq hq
        simp only [p_u, if_neg hne]
        simpa using h0
      · have hle : l.length ≤ zi := by omega
        rw [List.getElem?_append_right hle] at hq
        have hz0 : zi - l.length = 0 := by
          by_cases hz1 : zi - l.length = 0
          · exact hz1
          · rw [List.getElem?_eq_none (by show 1 ≤ _; omega)] at hq
            cases hq
        rw [hz0] at hq
        have hzi : zi = l.length := by omega
        subst hzi
        cases hq
        simp [p_u]
    · intro zx hx hy
      have n0 : zx ≠ 70 := by omega
      have n1 : zx ≠ 71 := by omega
      have n2 : zx ≠ 72 := by omega
      have n3 : zx ≠ 73 := by omega
      have n4 : zx ≠ 74 := by omega
      have n5 : zx ≠ 75 := by omega
      rw [p_u_ne hx, p_u_ne n5, p_u_ne n4, p_u_ne n3, p_u_ne n2, p_u_ne n1, p_u_ne n0]
    · intro zj hx hy
      rw [p_u_nk hy, p_u_ne (by decide), p_u_ne (by decide), p_u_ne (by decide), p_u_ne (by decide), p_u_ne (by decide), p_u_ne (by decide)]
theorem m_begins {zd : Int64} : f_X12_begins I L 67 zd = some (p_u I 67 6 (bI false), p_u L 67 5 (q_beg (I 67 18) zd)) := by
  have h1 : ¬ (if zd = 0 then 1 else zd) = 0 := by
    by_cases h0 : zd = 0
    · rw [if_pos h0]; decide
    · rw [if_neg h0]; exact h0
  unfold f_X12_begins
  rw [n_let, n_ck (decide_eq_true h1)]
  rfl
theorem m_weakens {zx : Int32} : f_X12_weakens L 67 zx = some (p_u L 67 5 (L 67 5 * zx.toInt64 / 100)) := rfl
theorem m_squares {zx zy : Int64} : f_X12_squares zx zy = some (q_sq zx zy) := rfl
theorem m_mx (hG : GW N P) {T : Nat → Int32} (hT : I 68 = T) {zw : Nat} (hw : zw < 12) {zx : Int64} : f_X12_mirrorX N I P 67 (nI zw) zx = some (q_mx T zw zx) := by
  subst hT
  unfold f_X12_mirrorX q_mx
  rw [m_isUpright hG hw, Option.bind_some, m_wallOf hG hw (by decide), Option.bind_some, bI_if]
  cases q_up (I 68) zw <;> rfl
theorem m_my (hG : GW N P) {T : Nat → Int32} (hT : I 68 = T) {zw : Nat} (hw : zw < 12) {zx : Int64} : f_X12_mirrorY N I P 67 (nI zw) zx = some (q_my T zw zx) := by
  subst hT
  unfold f_X12_mirrorY q_my
  rw [m_isUpright hG hw, Option.bind_some, m_wallOf hG hw (by decide), Option.bind_some, bI_if]
  cases q_up (I 68) zw <;> rfl
end Model3
/-- the way by one mirror, if there is one -/
def q_M (T : Nat → Int32) (fx fy pw tx ty : Int32) (w : Nat) : List qW :=
  if q_alk (q_side T w fx.toInt64 fy.toInt64 1) (q_side T w tx.toInt64 ty.toInt64 1) = true then
    (if q_hit T w (q_over T w (q_mx T w fx.toInt64, q_my T w fy.toInt64, 1) (tx.toInt64, ty.toInt64, 1)) = true then
      q_add [] (nI 1) (nI w) (-1) (q_sq (q_mx T w fx.toInt64 - tx.toInt64) (q_my T w fy.toInt64 - ty.toInt64)) 0 (q_leg T (q_over T w (q_mx T w fx.toInt64, q_my T w fy.toInt64, 1) (tx.toInt64, ty.toInt64, 1)) (tx.toInt64, ty.toInt64, 1) (q_leg T (fx.toInt64, fy.toInt64, 1) (q_over T w (q_mx T w fx.toInt64, q_my T w fy.toInt64, 1) (tx.toInt64, ty.toInt64, 1)) (q_beg pw (q_sq (q_mx T w fx.toInt64 - tx.toInt64) (q_my T w fy.toInt64 - ty.toInt64)) * (q_bck T w).toInt64 / 100, false)))
    else [])
  else []
