/-- the way by two mirrors, if there is one -/
def q_P (T : Nat → Int32) (fx fy pw tx ty : Int32) (w v : Nat) : List qW :=
  if q_alk (q_side T v (q_mx T w fx.toInt64) (q_my T w fy.toInt64) 1) (q_side T v tx.toInt64 ty.toInt64 1) = true then
    (if q_hit T v (q_over T v (q_mx T v (q_mx T w fx.toInt64), q_my T v (q_my T w fy.toInt64), 1) (tx.toInt64, ty.toInt64, 1)) = true then
      (if q_alk (q_side T w fx.toInt64 fy.toInt64 1) (q_side T w (q_over T v (q_mx T v (q_mx T w fx.toInt64), q_my T v (q_my T w fy.toInt64), 1) (tx.toInt64, ty.toInt64, 1)).1 (q_over T v (q_mx T v (q_mx T w fx.toInt64), q_my T v (q_my T w fy.toInt64), 1) (tx.toInt64, ty.toInt64, 1)).2.1 (q_over T v (q_mx T v (q_mx T w fx.toInt64), q_my T v (q_my T w fy.toInt64), 1) (tx.toInt64, ty.toInt64, 1)).2.2) = true then
        (if q_hit T w (q_over T w (q_mx T w fx.toInt64, q_my T w fy.toInt64, 1) (q_over T v (q_mx T v (q_mx T w fx.toInt64), q_my T v (q_my T w fy.toInt64), 1) (tx.toInt64, ty.toInt64, 1))) = true then
          q_add [] (nI 2) (nI w) (nI v) (q_sq (q_mx T v (q_mx T w fx.toInt64) - tx.toInt64) (q_my T v (q_my T w fy.toInt64) - ty.toInt64)) 0 (q_leg T (q_over T v (q_mx T v (q_mx T w fx.toInt64), q_my T v (q_my T w fy.toInt64), 1) (tx.toInt64, ty.toInt64, 1)) (tx.toInt64, ty.toInt64, 1) (q_leg T (q_over T w (q_mx T w fx.toInt64, q_my T w fy.toInt64, 1) (q_over T v (q_mx T v (q_mx T w fx.toInt64), q_my T v (q_my T w fy.toInt64), 1) (tx.toInt64, ty.toInt64, 1))) (q_over T v (q_mx T v (q_mx T w fx.toInt64), q_my T v (q_my T w fy.toInt64), 1) (tx.toInt64, ty.toInt64, 1)) (q_leg T (fx.toInt64, fy.toInt64, 1) (q_over T w (q_mx T w fx.toInt64, q_my T w fy.toInt64, 1) (q_over T v (q_mx T v (q_mx T w fx.toInt64), q_my T v (q_my T w fy.toInt64), 1) (tx.toInt64, ty.toInt64, 1))) (q_beg pw (q_sq (q_mx T v (q_mx T w fx.toInt64) - tx.toInt64) (q_my T v (q_my T w fy.toInt64) - ty.toInt64)) * (q_bck T w).toInt64 / 100 * (q_bck T v).toInt64 / 100, false))))
        else [])
      else [])
    else [])
  else []
section Model5
variable {N : pN} {P : pR} {I : pI} {L : pL} {T : Nat → Int32} {fx fy pw tx ty : Int32}
theorem m_byMirrors (hG : GW N P) (hwf : q_wf4 T) {zn : Nat} (hn : 12 < zn) (hs : q_ms I T fx fy pw tx ty) {l : List qW} (hM : q_MR I l) (hlen : l.length < 200) {zw zv : Nat} (hw : zw < nv (T 0)) (hv : zv < nv (T 0)) : ∃ J K, f_X12_byMirrors zn N I L P 67 (nI zw) (nI zv) = some (J, K) ∧ q_MR J (l ++ q_P T fx fy pw tx ty zw zv) ∧ q_mFr I J ∧ ∀ zq, zq ≠ 67 → K zq = L zq := by
  have h12 : zw < 12 := by have := hwf.1.2; omega
  have v12 : zv < 12 := by have := hwf.1.2; omega
  obtain ⟨hT, s14, s15, s16, s17, s18⟩ := id hs
  unfold f_X12_byMirrors q_P
  rw [s14, s15, s16, s17, m_mx hG hT h12, Option.bind_some, m_my hG hT h12, Option.bind_some, m_sideT hG hT v12, Option.bind_some, m_sideT hG hT v12, Option.bind_some, m_alk, Option.bind_some]
  generalize q_mx T zw fx.toInt64 = zx
  generalize q_my T zw fy.toInt64 = zy
  cases h1 : q_alk (q_side T zv zx zy 1) (q_side T zv tx.toInt64 ty.toInt64 1) with
  | false =>
    rw [bI_iff]
    exact ⟨I, L, rfl, by rw [if_neg (by decide), List.append_nil]; exact hM, q_mFr.rf, fun _ _ => rfl⟩
  | true =>
    rw [bI_ift, m_mx hG hT v12, Option.bind_some, m_my hG hT v12, Option.bind_some, m_crossesT hG hT v12, Option.bind_some]
    dsimp only
    generalize q_over T zv (q_mx T zv zx, q_my T zv zy, 1) (tx.toInt64, ty.toInt64, 1) = zo
    cases h2 : q_hit T zv zo with
    | false =>
      rw [bI_iff]
      exact ⟨I, q_putO L zo, rfl, by rw [if_pos rfl, if_neg (by decide), List.append_nil]; exact hM, q_mFr.rf, fun zq hq => q_putO_n hq⟩
    | true =>
      rw [bI_ift, m_sideT hG hT h12, Option.bind_some, m_sideT hG hT h12, Option.bind_some, m_alk, Option.bind_some, q_putO_1, q_putO_2, q_putO_3]
      cases h3 : q_alk (q_side T zw fx.toInt64 fy.toInt64 1) (q_side T zw zo.1 zo.2.1 zo.2.2) with
      | false =>
        rw [bI_iff]
        exact ⟨I, q_putO L zo, rfl, by rw [if_pos rfl, if_pos rfl, if_neg (by decide), List.append_nil]; exact hM, q_mFr.rf, fun zq hq => q_putO_n hq⟩
      | true =>
        rw [bI_ift, m_crossesT hG hT h12, Option.bind_some]
        dsimp only
        have ezo : ((zo.1, zo.2.1, zo.2.2) : qP) = zo := rfl
        rw [ezo]
        generalize q_over T zw (zx, zy, 1) zo = zp
        cases h4 : q_hit T zw zp with
        | false =>
          rw [bI_iff]
          exact ⟨I, q_putO (q_putO L zo) zp, rfl, by rw [if_pos rfl, if_pos rfl, if_pos rfl, if_neg (by decide), List.append_nil]; exact hM, q_mFr.rf, fun zq hq => by rw [q_putO_n hq, q_putO_n hq]⟩
        | true =>
          rw [bI_ift, m_squares, Option.bind_some, m_begins, Option.bind_some, s18]
          dsimp only
          generalize q_sq (q_mx T zv zx - tx.toInt64) (q_my T zv zy - ty.toInt64) = zd
          have hs1 : q_ms (p_u I 67 6 (bI false)) T fx fy pw tx ty := hs.fr q_mFr.b
          have t4 := m_thr hG hs1.1 h12 (hwf.2 zw hw)
          have t5 := m_thr hG hs1.1 v12 (hwf.2 zv hv)
          rw [gp_67_0 hG, Option.bind_some, t4.1, Option.bind_some, n_ck t4.2.2.2.1, t4.2.2.2.2, m_weakens, Option.bind_some, Option.bind_some, t5.1, Option.bind_some, n_ck t5.2.2.2.1, t5.2.2.2.2, m_weakens, Option.bind_some, p_u_self, p_u_u, p_u_self, p_u_u, hs1.2.1, hs1.2.2.1, q_putO_1, q_putO_2, q_putO_3]
          obtain ⟨I1, L1, e1, e2, e3, e4, e5, e6⟩ := m_legS (L := p_u (q_putO (q_putO L zo) zp) 67 5 (q_beg pw zd * (q_bck T zw).toInt64 / 100 * (q_bck T zv).toInt64 / 100)) (ax := fx.toInt64) (ay := fy.toInt64) (ap := 1) (bx := zp.1) (cy := zp.2.1) (cp := zp.2.2) (zs := (q_beg pw zd * (q_bck T zw).toInt64 / 100 * (q_bck T zv).toInt64 / 100, false)) hG hwf hn hs1 p_u_self p_u_self
          rw [e1, Option.bind_some]
          dsimp only
          have hs2 := hs1.fr e4
          obtain ⟨I2, L2, g1, g2, g3, g4, g5, g6⟩ := m_legS (ax := zp.1) (ay := zp.2.1) (ap := zp.2.2) (bx := zo.1) (cy := zo.2.1) (cp := zo.2.2) hG hwf hn hs2 e2 e3
          rw [g1, Option.bind_some]
          dsimp only
          have hs3 := hs2.fr g4
          rw [hs3.2.2.2.1, hs3.2.2.2.2.1]
          obtain ⟨I3, L3, i1, i2, i3, i4, i5, i6⟩ := m_legS (ax := zo.1) (ay := zo.2.1) (ap := zo.2.2) (bx := tx.toInt64) (cy := ty.toInt64) (cp := 1) hG hwf hn hs3 g2 g3
          rw [i1, Option.bind_some]
          dsimp only
          obtain ⟨I4, k1, k2, k3⟩ := m_adds (k1 := nI 2) (f1 := nI zw) (g1 := nI zv) (a1 := zd) (c1 := 0) hG (i5 l (g5 l (e5 l hM.b))) hlen i2 i3
          rw [k1, Option.bind_some]
          refine ⟨I4, L3, rfl, ?_, (((q_mFr.b.tr e4).tr g4).tr i4).tr k3, fun zq hq => ?_⟩
          · rw [if_pos rfl, if_pos rfl, if_pos rfl, if_pos rfl, ← q_add_nil]
            exact k2
          · rw [i6 zq hq, g6 zq hq, e6 zq hq, p_u_ne hq, q_putO_n hq, q_putO_n hq]
end Model5
