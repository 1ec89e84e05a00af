/-! the reference: a leg -/
theorem p_u_u {α : Type} {f : Nat → Nat → α} {za zk : Nat} {zx zy : α} : p_u (p_u f za zk zx) za zk zy = p_u f za zk zy := by
  funext x j
  unfold p_u
  by_cases h1 : x = za
  · simp only [if_pos h1]
    by_cases h2 : j = zk
    · simp only [if_pos h2]
    · simp only [if_neg h2]
  · simp only [if_neg h1]
section Model2
variable {N : pN} {P : pR} {I : pI} {L : pL}
/-- walls of whose stuff is told -/
def q_wf4 (T : Nat → Int32) : Prop := rg (T 0) 12 ∧ ∀ zw, zw < nv (T 0) → rg (q_w T zw 4) 4
theorem m_seesWallT (hG : GW N P) {T : Nat → Int32} (hT : I 68 = T) {zw : Nat} (hw : zw < 12) : f_X12_seesWall N I P 67 (nI zw) = some (bI (q_there T (q_w T zw 5) (q_w T zw 6))) := by
  subst hT
  exact m_seesWall hG hw
theorem m_sideT (hG : GW N P) {T : Nat → Int32} (hT : I 68 = T) {zw : Nat} (hw : zw < 12) {zx zy zp : Int64} : f_X12_side N I P 67 (nI zw) zx zy zp = some (q_side T zw zx zy zp) := by
  subst hT
  exact m_side hG hw
theorem m_crossesT (hG : GW N P) {T : Nat → Int32} (hT : I 68 = T) {zw : Nat} (hw : zw < 12) {x1 y1 p1 x2 y2 p2 : Int64} : f_X12_crosses N I L P 67 (nI zw) x1 y1 p1 x2 y2 p2 = some (bI (q_hit T zw (q_over T zw (x1, y1, p1) (x2, y2, p2))), q_putO L (q_over T zw (x1, y1, p1) (x2, y2, p2))) := by
  subst hT
  exact m_crosses hG hw
theorem m_thr (hG : GW N P) {zI : pI} {T : Nat → Int32} (hT : zI 68 = T) {zw : Nat} (hw : zw < 12) (h4 : rg (q_w T zw 4) 4) : f_X12_wallOf N zI P 67 (nI zw) (nI 4) = some (q_w T zw 4) ∧ p_ib N 68 (nI 23 + q_w T zw 4) = true ∧ zI 68 (Int32.toNatClampNeg (nI 23 + q_w T zw 4)) = q_thr T zw ∧ p_ib N 68 (nI 18 + q_w T zw 4) = true ∧ zI 68 (Int32.toNatClampNeg (nI 18 + q_w T zw 4)) = q_bck T zw := by
  have hv : nv (q_w T zw 4) ≤ 4 := h4.2
  have e1 : nI 23 + q_w T zw 4 = nI (23 + nv (q_w T zw 4)) := by
    conv => lhs; rw [h4.1]
    rw [nI_add]
  have e2 : nI 18 + q_w T zw 4 = nI (18 + nv (q_w T zw 4)) := by
    conv => lhs; rw [h4.1]
    rw [nI_add]
  refine ⟨?_, ?_, ?_, ?_, ?_⟩
  · rw [m_wallOf hG hw (by decide), hT]
  · rw [e1]; exact ib_68 hG (by omega)
  · rw [e1, nI_clamp (by omega), hT]; rfl
  · rw [e2]; exact ib_68 hG (by omega)
  · rw [e2, nI_clamp (by omega), hT]; rfl
theorem m_leg (hG : GW N P) (hwf : q_wf4 (I 68)) {zn : Nat} (hn : 12 < zn) {ax ay ap bx cy cp : Int64} {f0 : Int64} {b0 : Bool} (hb0 : I 67 6 = bI b0) (hf0 : L 67 5 = f0) : ∃ zL, f_X12_leg zn N I L P 67 ax ay ap bx cy cp = some (p_u I 67 6 (bI (q_leg (I 68) (ax, ay, ap) (bx, cy, cp) (f0, b0)).2), zL) ∧ zL 67 5 = (q_leg (I 68) (ax, ay, ap) (bx, cy, cp) (f0, b0)).1 ∧ ∀ zq, zq ≠ 67 → zL zq = L zq := by
  have h12 : nv (I 68 0) ≤ 12 := hwf.1.2
  have hc0 : Int32.toNatClampNeg (nI 0) = 0 := by decide
  have hi0 : p_ib N 68 (nI 0) = true := ib_68 hG (by decide)
  have hp0 : P 67 0 = some 68 := gp_67_0 hG
  have hloop := p_loopI (B := B_X12_leg_3 N P 67 ax ay ap bx cy cp) (zJ := fun zk (zs : Int32 × pI × pL) => zs.1 = nI zk ∧ zs.2.1 = p_u I 67 6 (bI (q_fold (q_leg1 (I 68) (ax, ay, ap) (bx, cy, cp)) zk (f0, b0)).2) ∧ zs.2.2 67 5 = (q_fold (q_leg1 (I 68) (ax, ay, ap) (bx, cy, cp)) zk (f0, b0)).1 ∧ ∀ zq, zq ≠ 67 → zs.2.2 zq = L zq) (zE := fun (zt : pI × pL) => zt.1 = p_u I 67 6 (bI (q_leg (I 68) (ax, ay, ap) (bx, cy, cp) (f0, b0)).2) ∧ zt.2 67 5 = (q_leg (I 68) (ax, ay, ap) (bx, cy, cp) (f0, b0)).1 ∧ ∀ zq, zq ≠ 67 → zt.2 zq = L zq) (zm := nv (I 68 0)) (zn := zn) (by omega) ?_ ?_ (nI 0, I, L) ⟨rfl, (p_u_same hb0).symm, hf0, fun _ _ => rfl⟩
  · obtain ⟨zt, ht1, ht2, ht3, ht4⟩ := hloop
    refine ⟨zt.2, ?_, ht3, ht4⟩
    unfold f_X12_leg
    rw [ht1, Option.bind_some, ht2]
  · rintro zk hk ⟨z1, zI, zL⟩ ⟨e1, e2, e3, e4⟩
    left
    dsimp only at e1 e2 e3 e4
    subst e1
    have e68 : zI 68 = I 68 := by rw [e2]; exact p_u_ne (by decide)
    have e6 : zI 67 6 = bI (q_fold (q_leg1 (I 68) (ax, ay, ap) (bx, cy, cp)) zk (f0, b0)).2 := by rw [e2, p_u_self]
    have hk12 : zk < 12 := by omega
    have h4 := m_thr hG e68 hk12 (hwf.2 zk hk)
    have hsee : q_seeW (I 68) zk = q_there (I 68) (q_w (I 68) zk 5) (q_w (I 68) zk 6) := by
      unfold q_seeW
      rw [decide_eq_true hk]
      rfl
    have hc : ¬ I 68 0 ≤ nI zk := by rw [hwf.1.1]; exact nI_ge hk (by omega)
    have hcz : ¬ zI 68 0 ≤ nI zk := by rw [e68]; exact hc
    have hfold : q_fold (q_leg1 (I 68) (ax, ay, ap) (bx, cy, cp)) (zk + 1) (f0, b0) = q_leg1 (I 68) (ax, ay, ap) (bx, cy, cp) zk (q_fold (q_leg1 (I 68) (ax, ay, ap) (bx, cy, cp)) zk (f0, b0)) := rfl
    generalize q_fold (q_leg1 (I 68) (ax, ay, ap) (bx, cy, cp)) zk (f0, b0) = zf at e2 e3 e6 hfold
    have hl1 : q_leg1 (I 68) (ax, ay, ap) (bx, cy, cp) zk zf = if q_there (I 68) (q_w (I 68) zk 5) (q_w (I 68) zk 6) && (q_opp (q_side (I 68) zk ax ay ap) (q_side (I 68) zk bx cy cp) && q_hit (I 68) zk (q_over (I 68) zk (ax, ay, ap) (bx, cy, cp))) then (zf.1 * (q_thr (I 68) zk).toInt64 / 100, zf.2 || decide (q_thr (I 68) zk = 0)) else zf := by
      unfold q_leg1
      rw [hsee]
      rfl
    cases hs : q_there (I 68) (q_w (I 68) zk 5) (q_w (I 68) zk 6) with
    | false =>
      rw [hs] at hl1
      refine ⟨(nI (zk + 1), zI, zL), ⟨rfl, ?_, ?_, e4⟩, fun zrec => ?_⟩
      · dsimp only; rw [hfold, hl1]; exact e2
      · dsimp only; rw [hfold, hl1]; exact e3
      · unfold B_X12_leg_3
        dsimp only
        rw [hp0, Option.bind_some, n_ck hi0, hc0, if_neg hcz, m_seesWallT hG e68 hk12, hs, Option.bind_some, bI_iff, Option.bind_some, nI_add]
    | true =>
      cases ho : q_opp (q_side (I 68) zk ax ay ap) (q_side (I 68) zk bx cy cp) with
      | false =>
        rw [hs, ho] at hl1
        refine ⟨(nI (zk + 1), zI, zL), ⟨rfl, ?_, ?_, e4⟩, fun zrec => ?_⟩
        · dsimp only; rw [hfold, hl1]; exact e2
        · dsimp only; rw [hfold, hl1]; exact e3
        · unfold B_X12_leg_3
          dsimp only
          rw [hp0, Option.bind_some, n_ck hi0, hc0, if_neg hcz, m_seesWallT hG e68 hk12, hs, Option.bind_some, bI_ift, m_sideT hG e68 hk12, Option.bind_some, m_sideT hG e68 hk12, Option.bind_some, m_opp, ho, Option.bind_some, bI_iff, Option.bind_some, nI_add]
      | true =>
        cases hh : q_hit (I 68) zk (q_over (I 68) zk (ax, ay, ap) (bx, cy, cp)) with
        | false =>
          rw [hs, ho, hh] at hl1
          refine ⟨(nI (zk + 1), zI, q_putO zL (q_over (I 68) zk (ax, ay, ap) (bx, cy, cp))), ⟨rfl, ?_, ?_, fun zq hq => ?_⟩, fun zrec => ?_⟩
          · dsimp only; rw [hfold, hl1]; exact e2
          · dsimp only; rw [hfold, hl1, q_putO_5]; exact e3
          · dsimp only; rw [q_putO_n hq]; exact e4 zq hq
          · unfold B_X12_leg_3
            dsimp only
            rw [hp0, Option.bind_some, n_ck hi0, hc0, if_neg hcz, m_seesWallT hG e68 hk12, hs, Option.bind_some, bI_ift, m_sideT hG e68 hk12, Option.bind_some, m_sideT hG e68 hk12, Option.bind_some, m_opp, ho, Option.bind_some, bI_ift, m_crossesT hG e68 hk12, hh, Option.bind_some, bI_iff, Option.bind_some, nI_add]
        | true =>
          rw [hs, ho, hh] at hl1
          have hl2 : q_leg1 (I 68) (ax, ay, ap) (bx, cy, cp) zk zf = (zf.1 * (q_thr (I 68) zk).toInt64 / 100, zf.2 || decide (q_thr (I 68) zk = 0)) := hl1
          have hin : (if zI 67 6 = 0 then Option.bind (some 68) fun q21 => Option.bind (f_X12_wallOf N zI P 67 (nI zk) (nI 4)) fun q24 => p_ck (p_ib N q21 (nI 23 + q24)) (if zI q21 (Int32.toNatClampNeg (nI 23 + q24)) = 0 then some (nI 1) else some (nI 0)) else some (nI 1)) = some (bI (zf.2 || decide (q_thr (I 68) zk = 0))) := by
            rw [e6, Option.bind_some, h4.1, Option.bind_some, n_ck h4.2.1, h4.2.2.1]
            cases zf.2 with
            | false =>
              rw [bI_iff]
              by_cases h9 : q_thr (I 68) zk = 0
              · rw [if_pos h9, decide_eq_true h9]; rfl
              · rw [if_neg h9, decide_eq_false h9]; rfl
            | true => rw [bI_ift]; rfl
          have e28 : (p_u zI 67 6 (bI (zf.2 || decide (q_thr (I 68) zk = 0)))) 68 = I 68 := by rw [p_u_ne (by decide)]; exact e68
          have h5 := m_thr hG e28 hk12 (hwf.2 zk hk)
          refine ⟨(nI (zk + 1), p_u zI 67 6 (bI (zf.2 || decide (q_thr (I 68) zk = 0))), p_u (q_putO zL (q_over (I 68) zk (ax, ay, ap) (bx, cy, cp))) 67 5 (zf.1 * (q_thr (I 68) zk).toInt64 / 100)), ⟨rfl, ?_, ?_, fun zq hq => ?_⟩, fun zrec => ?_⟩
          · dsimp only; rw [hfold, hl2, e2, p_u_u]
          · dsimp only; rw [hfold, hl2, p_u_self]
          · dsimp only; rw [p_u_ne hq, q_putO_n hq]; exact e4 zq hq
          · unfold B_X12_leg_3
            dsimp only
            rw [hp0, Option.bind_some, n_ck hi0, hc0, if_neg hcz, m_seesWallT hG e68 hk12, hs, Option.bind_some, bI_ift, m_sideT hG e68 hk12, Option.bind_some, m_sideT hG e68 hk12, Option.bind_some, m_opp, ho, Option.bind_some, bI_ift, m_crossesT hG e68 hk12, hh, Option.bind_some, bI_ift, hin, Option.bind_some, n_ck (bI_ck _), n_let, Option.bind_some, h5.1, Option.bind_some, n_ck h5.2.1, h5.2.2.1]
            unfold f_X12_weakens
            rw [n_let, Option.bind_some, Option.bind_some, nI_add]
            dsimp only
            rw [q_putO_5, e3]
  · rintro ⟨z1, zI, zL⟩ ⟨e1, e2, e3, e4⟩
    dsimp only at e1 e2 e3 e4
    subst e1
    have e68 : zI 68 = I 68 := by rw [e2]; exact p_u_ne (by decide)
    refine ⟨(zI, zL), ⟨e2, e3, e4⟩, fun zrec => ?_⟩
    unfold B_X12_leg_3
    dsimp only
    have hcz : zI 68 0 ≤ nI (nv (I 68 0)) := by rw [e68, ← hwf.1.1]; exact Int32.le_refl _
    rw [hp0, Option.bind_some, n_ck hi0, hc0, if_pos hcz]
end Model2
