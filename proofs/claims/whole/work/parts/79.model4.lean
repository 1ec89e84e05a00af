/-! the reference: ways by one mirror, by two -/
def q_ms (I : pI) (T : Nat → Int32) (fx fy pw tx ty : Int32) : Prop := I 68 = T ∧ I 67 14 = fx ∧ I 67 15 = fy ∧ I 67 16 = tx ∧ I 67 17 = ty ∧ I 67 18 = pw
theorem q_ms.fr {I J : pI} {T : Nat → Int32} {fx fy pw tx ty : Int32} (h1 : q_ms I T fx fy pw tx ty) (h2 : q_mFr I J) : q_ms J T fx fy pw tx ty := by
  obtain ⟨a1, a2, a3, a4, a5, a6⟩ := h1
  exact ⟨h2.t.trans a1, (h2.2 14 (by decide) (by decide)).trans a2, (h2.2 15 (by decide) (by decide)).trans a3, (h2.2 16 (by decide) (by decide)).trans a4, (h2.2 17 (by decide) (by decide)).trans a5, (h2.2 18 (by decide) (by decide)).trans a6⟩
section Model4
variable {N : pN} {P : pR} {I : pI} {L : pL} {T : Nat → Int32} {fx fy pw tx ty : Int32}
/-- a leg, with its state -/
theorem m_legS (hG : GW N P) (hwf : q_wf4 T) {zn : Nat} (hn : 12 < zn) (hs : q_ms I T fx fy pw tx ty) {ax ay ap bx cy cp : Int64} {zs : Int64 × Bool} (hb0 : I 67 6 = bI zs.2) (hf0 : L 67 5 = zs.1) : ∃ J K, f_X12_leg zn N I L P 67 ax ay ap bx cy cp = some (J, K) ∧ J 67 6 = bI (q_leg T (ax, ay, ap) (bx, cy, cp) zs).2 ∧ K 67 5 = (q_leg T (ax, ay, ap) (bx, cy, cp) zs).1 ∧ q_mFr I J ∧ (∀ l, q_MR I l → q_MR J l) ∧ ∀ zq, zq ≠ 67 → K zq = L zq := by
  have hT := hs.1
  subst hT
  obtain ⟨K, k1, k2, k3⟩ := m_leg (f0 := zs.1) (b0 := zs.2) (ax := ax) (ay := ay) (ap := ap) (bx := bx) (cy := cy) (cp := cp) hG hwf hn hb0 hf0
  exact ⟨_, K, k1, p_u_self, k2, q_mFr.b, fun l hl => hl.b, k3⟩
theorem m_byMirror (hG : GW N P) (hwf : q_wf4 T) {zn : Nat} (hn : 12 < zn) (hs : q_ms I T fx fy pw tx ty) {l : List qW} (hM : q_MR I l) (hlen : l.length < 200) {zw : Nat} (hw : zw < nv (T 0)) : ∃ J K, f_X12_byMirror zn N I L P 67 (nI zw) = some (J, K) ∧ q_MR J (l ++ q_M T fx fy pw tx ty zw) ∧ q_mFr I J ∧ ∀ zq, zq ≠ 67 → K zq = L zq := by
  have h12 : zw < 12 := by have := hwf.1.2; omega
  obtain ⟨hT, s14, s15, s16, s17, s18⟩ := id hs
  unfold f_X12_byMirror q_M
  rw [s14, s15, s16, s17, m_sideT hG hT h12, Option.bind_some, m_sideT hG hT h12, Option.bind_some, m_alk, Option.bind_some]
  cases h1 : q_alk (q_side T zw fx.toInt64 fy.toInt64 1) (q_side T zw tx.toInt64 ty.toInt64 1) with
  | false =>
    rw [bI_iff]
    exact ⟨I, L, rfl, by rw [if_neg (by decide), List.append_nil]; exact hM, q_mFr.rf, fun _ _ => rfl⟩
  | true =>
    rw [bI_ift, m_mx hG hT h12, Option.bind_some, m_my hG hT h12, Option.bind_some, m_crossesT hG hT h12, Option.bind_some]
    dsimp only
    generalize q_over T zw (q_mx T zw fx.toInt64, q_my T zw fy.toInt64, 1) (tx.toInt64, ty.toInt64, 1) = zo
    cases h2 : q_hit T zw zo with
    | false =>
      rw [bI_iff]
      exact ⟨I, q_putO L zo, rfl, by rw [if_pos rfl, if_neg (by decide), List.append_nil]; exact hM, q_mFr.rf, fun zq hq => q_putO_n hq⟩
    | true =>
      rw [bI_ift, m_squares, Option.bind_some, m_begins, Option.bind_some, s18]
      dsimp only
      generalize q_sq (q_mx T zw fx.toInt64 - tx.toInt64) (q_my T zw fy.toInt64 - ty.toInt64) = zd
      have hs1 : q_ms (p_u I 67 6 (bI false)) T fx fy pw tx ty := hs.fr q_mFr.b
      have h4 := m_thr hG hs1.1 h12 (hwf.2 zw hw)
      rw [gp_67_0 hG, Option.bind_some, h4.1, Option.bind_some, n_ck h4.2.2.2.1, h4.2.2.2.2, m_weakens, Option.bind_some, p_u_self, p_u_u, hs1.2.1, hs1.2.2.1, q_putO_1, q_putO_2, q_putO_3]
      obtain ⟨I1, L1, e1, e2, e3, e4, e5, e6⟩ := m_legS (L := p_u (q_putO L zo) 67 5 (q_beg pw zd * (q_bck T zw).toInt64 / 100)) (ax := fx.toInt64) (ay := fy.toInt64) (ap := 1) (bx := zo.1) (cy := zo.2.1) (cp := zo.2.2) (zs := (q_beg pw zd * (q_bck T zw).toInt64 / 100, false)) hG hwf hn hs1 p_u_self p_u_self
      rw [e1, Option.bind_some]
      dsimp only
      have hs2 := hs1.fr e4
      rw [hs2.2.2.2.1, hs2.2.2.2.2.1]
      obtain ⟨I2, L2, g1, g2, g3, g4, g5, g6⟩ := m_legS (ax := zo.1) (ay := zo.2.1) (ap := zo.2.2) (bx := tx.toInt64) (cy := ty.toInt64) (cp := 1) hG hwf hn hs2 e2 e3
      rw [g1, Option.bind_some]
      dsimp only
      obtain ⟨I3, k1, k2, k3⟩ := m_adds (k1 := nI 1) (f1 := nI zw) (g1 := -1) (a1 := zd) (c1 := 0) hG (g5 l (e5 l hM.b)) hlen g2 g3
      rw [k1, Option.bind_some]
      refine ⟨I3, L2, rfl, ?_, ((q_mFr.b.tr e4).tr g4).tr k3, fun zq hq => ?_⟩
      · rw [if_pos rfl, if_pos rfl, ← q_add_nil]
        exact k2
      · rw [g6 zq hq, e6 zq hq, p_u_ne hq, q_putO_n hq]
end Model4
