/-! the class: what is left of a strength behind a leg -/
def c_res (s : Int64 × Bool) : Int32 := if s.2 = true then -1 else s.1.toInt32
/-- a strength: a number up to 9,999,000, or barred -/
def q_ok (s : Int64 × Bool) : Prop := s.2 = true ∨ ∃ k : Nat, k ≤ 9999000 ∧ s.1 = lN k
theorem rg_l {zx : Int32} {zm : Nat} (hx : rg zx zm) (hm : zm < 2 ^ 31) : zx.toInt64 = lN (nv zx) := by
  have h1 := hx.1
  have h2 := hx.2
  conv => lhs; rw [h1]
  exact nI_l (by omega)
theorem q_div {zk zt : Nat} (hk : zk ≤ 9999000) (ht : zt ≤ 100) : lN zk * (nI zt).toInt64 / 100 = lN (zk * zt / 100) ∧ nI zk * nI zt / nI 100 = nI (zk * zt / 100) ∧ zk * zt / 100 ≤ 9999000 := by
  have h1 : zk * zt ≤ 9999000 * 100 := Nat.mul_le_mul hk ht
  refine ⟨?_, ?_, by omega⟩
  · rw [nI_l (by omega), lN_mul]
    exact pk_lDiv (by omega) (by decide) (by decide)
  · rw [pk_mul]
    exact pk_div (by omega) (by decide) (by decide)
theorem q_leg1_ok {T : Nat → Int32} {za zb : qP} {zw : Nat} {zs : Int64 × Bool} (hs1 : q_ok zs) (ht : q_seeW T zw = true → rg (q_thr T zw) 100) : q_ok (q_leg1 T za zb zw zs) := by
  unfold q_leg1
  by_cases hc1 : (q_seeW T zw && q_meet T zw za zb) = true
  · rw [if_pos hc1]
    have hs2 : q_seeW T zw = true := by
      cases hq : q_seeW T zw with
      | true => rfl
      | false => rw [hq] at hc1; cases hc1
    have ht2 := ht hs2
    rcases hs1 with hb1 | ⟨zk, hk1, hk2⟩
    · left; dsimp only; rw [hb1]; rfl
    · right
      dsimp only
      rw [hk2, ht2.1]
      exact ⟨_, (q_div hk1 ht2.2).2.2, (q_div hk1 ht2.2).1⟩
  · rw [if_neg hc1]; exact hs1
theorem q_fold_id {α : Type} {f : Nat → α → α} {zm : Nat} (hf1 : ∀ zw zs, zm ≤ zw → f zw zs = zs) {zs : α} : ∀ zj, q_fold f (zm + zj) zs = q_fold f zm zs := by
  intro zj
  induction zj with
  | zero => rfl
  | succ zj ih => show f (zm + zj) (q_fold f (zm + zj) zs) = _; rw [hf1 _ _ (by omega), ih]
theorem q_leg_12 {T : Nat → Int32} {za zb : qP} {zs : Int64 × Bool} (h0 : nv (T 0) ≤ 12) : q_fold (q_leg1 T za zb) 12 zs = q_leg T za zb zs := by
  have h1 := q_fold_id (f := q_leg1 T za zb) (zm := nv (T 0)) (fun zw zs2 hw => by
    unfold q_leg1 q_seeW
    rw [decide_eq_false (by omega)]
    rfl) (zs := zs) (12 - nv (T 0))
  rw [show nv (T 0) + (12 - nv (T 0)) = 12 by omega] at h1
  exact h1
theorem q_fold_b {T : Nat → Int32} {za zb : qP} {zs : Int64 × Bool} {zk : Nat} (hb1 : (q_fold (q_leg1 T za zb) zk zs).2 = true) : ∀ zj, (q_fold (q_leg1 T za zb) (zk + zj) zs).2 = true := by
  intro zj
  induction zj with
  | zero => exact hb1
  | succ zj ih =>
    show (q_leg1 T za zb (zk + zj) (q_fold (q_leg1 T za zb) (zk + zj) zs)).2 = true
    generalize q_fold (q_leg1 T za zb) (zk + zj) zs = zf at ih
    unfold q_leg1
    by_cases hc1 : (q_seeW T (zk + zj) && q_meet T (zk + zj) za zb) = true
    · rw [if_pos hc1]; dsimp only; rw [ih]; rfl
    · rw [if_neg hc1]; exact ih
/-- the barriers stand as the walls are seen -/
def q_bars (I : pI) (T : Nat → Int32) : Prop := ∀ zw, zw < 12 → I (43 - zw) 2 = bI (q_seeW T zw) ∧ (q_seeW T zw = true → q_bar I T zw (43 - zw) ∧ rg (q_thr T zw) 100 ∧ rg (q_bck T zw) 100)
theorem c_next {N : pN} {P : pR} (hG : GW N P) {zk : Nat} (hk : zk < 12) : P (43 - zk) 1 = if zk + 1 < 12 then some (43 - (zk + 1)) else none := by
  rcases (show zk = 0 ∨ zk = 1 ∨ zk = 2 ∨ zk = 3 ∨ zk = 4 ∨ zk = 5 ∨ zk = 6 ∨ zk = 7 ∨ zk = 8 ∨ zk = 9 ∨ zk = 10 ∨ zk = 11 by omega) with rfl | rfl | rfl | rfl | rfl | rfl | rfl | rfl | rfl | rfl | rfl | rfl
  · exact gp_43_1 hG
  · exact gp_42_1 hG
  · exact gp_41_1 hG
  · exact gp_40_1 hG
  · exact gp_39_1 hG
  · exact gp_38_1 hG
  · exact gp_37_1 hG
  · exact gp_36_1 hG
  · exact gp_35_1 hG
  · exact gp_34_1 hG
  · exact gp_33_1 hG
  · exact hG.nx
def c_at (zk : Nat) : Option Nat := if zk < 12 then some (43 - zk) else none
theorem c_carry {N : pN} {P : pR} {I : pI} {L : pL} {T : Nat → Int32} (hG : GW N P) (hB : q_bars I T) {zx : Int32} (hx : rg zx 9999000) {a2 a3 : Nat} (h2 : a2 ≠ 28) (h3 : a3 ≠ 28) {zn : Nat} (hn : 12 < zn) : ∃ zL, f_X2_carry zn I L P 21 zx a2 a3 = some (c_res (q_fold (q_leg1 T (c_pt L a2) (c_pt L a3)) 12 (zx.toInt64, false)), zL) ∧ (∀ zq, zq ≠ 28 → zL zq = L zq) ∧ q_ok (q_fold (q_leg1 T (c_pt L a2) (c_pt L a3)) 12 (zx.toInt64, false)) := by
  have hp7 : P 21 7 = some 28 := gp_21_7 hG
  have hok : ∀ zk, zk ≤ 12 → q_ok (q_fold (q_leg1 T (c_pt L a2) (c_pt L a3)) zk (zx.toInt64, false)) := by
    intro zk
    induction zk with
    | zero => intro _; right; exact ⟨nv zx, hx.2, rg_l hx (by decide)⟩
    | succ zk ih => intro hk; exact q_leg1_ok (ih (by omega)) (fun hs => ((hB zk (by omega)).2 hs).2.1)
  have hloop := p_loopI (B := B_X2_carry_9 I P 21 a2 a3) (zJ := fun zk (zs : Int32 × (Option Nat) × pL) => zs.1 = c_res (q_fold (q_leg1 T (c_pt L a2) (c_pt L a3)) zk (zx.toInt64, false)) ∧ zs.2.1 = c_at zk ∧ ∀ zq, zq ≠ 28 → zs.2.2 zq = L zq) (zE := fun (zt : Int32 × pL) => zt.1 = c_res (q_fold (q_leg1 T (c_pt L a2) (c_pt L a3)) 12 (zx.toInt64, false)) ∧ ∀ zq, zq ≠ 28 → zt.2 zq = L zq) (zm := 12) (zn := zn) hn ?_ ?_ (zx, P 21 0, L) ⟨?_, gp_21_0 hG, fun _ _ => rfl⟩
  · obtain ⟨zt, ht1, ht2, ht3⟩ := hloop
    refine ⟨zt.2, ?_, ht3, hok 12 (Nat.le_refl _)⟩
    unfold f_X2_carry
    rw [ht1, Option.bind_some, ht2]
  · rintro zk hk ⟨z1, zr, zL⟩ ⟨e1, e2, e3⟩
    dsimp only at e1 e2 e3
    have ecs : zr = some (43 - zk) := by rw [e2]; unfold c_at; rw [if_pos hk]
    subst ecs
    have eL2 : c_pt zL a2 = c_pt L a2 := by unfold c_pt; rw [e3 a2 h2]
    have eL3 : c_pt zL a3 = c_pt L a3 := by unfold c_pt; rw [e3 a3 h3]
    have hnx := c_next hG hk
    have hat : P (43 - zk) 1 = c_at (zk + 1) := hnx
    have hfold : q_fold (q_leg1 T (c_pt L a2) (c_pt L a3)) (zk + 1) (zx.toInt64, false) = q_leg1 T (c_pt L a2) (c_pt L a3) zk (q_fold (q_leg1 T (c_pt L a2) (c_pt L a3)) zk (zx.toInt64, false)) := rfl
    by_cases hbar : (q_fold (q_leg1 T (c_pt L a2) (c_pt L a3)) zk (zx.toInt64, false)).2 = true
    · right
      have hb2 := q_fold_b hbar (12 - zk)
      rw [show zk + (12 - zk) = 12 by omega] at hb2
      have ez1 : z1 = -1 := by rw [e1]; unfold c_res; rw [if_pos hbar]
      refine ⟨(z1, zL), ⟨?_, e3⟩, fun zrec => ?_⟩
      · dsimp only; unfold c_res; rw [if_pos hb2]; exact ez1
      · unfold B_X2_carry_9 p_cs
        dsimp only
        rw [if_pos ez1]
    · left
      have hokk := hok zk (by omega)
      generalize hzf : q_fold (q_leg1 T (c_pt L a2) (c_pt L a3)) zk (zx.toInt64, false) = zf at e1 hfold hbar hokk
      obtain ⟨zm, hm1, hm2⟩ : ∃ zm : Nat, zm ≤ 9999000 ∧ zf.1 = lN zm := hokk.resolve_left hbar
      have ez1 : z1 = nI zm := by rw [e1]; unfold c_res; rw [if_neg hbar, hm2, lN_i]
      have hne : ¬ z1 = -1 := by rw [ez1]; exact n_neg1 (by omega)
      have hBk := hB zk hk
      have hleg : q_leg1 T (c_pt L a2) (c_pt L a3) zk zf = if q_seeW T zk && q_meet T zk (c_pt L a2) (c_pt L a3) then (zf.1 * (q_thr T zk).toInt64 / 100, zf.2 || decide (q_thr T zk = 0)) else zf := rfl
      cases hs : q_seeW T zk with
      | false =>
        rw [hs] at hleg hBk
        refine ⟨(z1, c_at (zk + 1), zL), ⟨?_, rfl, e3⟩, fun zrec => ?_⟩
        · dsimp only; rw [hfold, hleg]; exact e1
        · unfold B_X2_carry_9 p_cs
          dsimp only
          rw [if_neg hne, hBk.1, bI_iff, Option.bind_some, hat]
      | true =>
        rw [hs] at hleg hBk
        obtain ⟨hb1, hb2, hb3⟩ := hBk.2 rfl
        have hmt := c_meets (L := zL) (a3 := 28) hb1 h2 h3
        rw [eL2, eL3] at hmt
        generalize hzM : (if q_opp (q_side T zk (zL a2 0) (zL a2 1) (zL a2 2)) (q_side T zk (zL a3 0) (zL a3 1) (zL a3 2)) = true then c_putO zL 28 (q_over T zk (c_pt L a2) (c_pt L a3)) else zL) = zM at hmt
        have eM : ∀ zq, zq ≠ 28 → zM zq = L zq := by
          intro zq hq
          rw [← hzM]
          by_cases hz9 : q_opp (q_side T zk (zL a2 0) (zL a2 1) (zL a2 2)) (q_side T zk (zL a3 0) (zL a3 1) (zL a3 2)) = true
          · rw [if_pos hz9, c_putO_n hq]; exact e3 zq hq
          · rw [if_neg hz9]; exact e3 zq hq
        cases hmm : q_meet T zk (c_pt L a2) (c_pt L a3) with
        | false =>
          rw [hmm] at hleg hmt
          refine ⟨(z1, c_at (zk + 1), zM), ⟨?_, rfl, eM⟩, fun zrec => ?_⟩
          · dsimp only; rw [hfold, hleg]; exact e1
          · unfold B_X2_carry_9 p_cs
            dsimp only
            rw [if_neg hne, hBk.1, bI_ift, hp7, Option.bind_some, hmt, Option.bind_some]
            dsimp only
            rw [bI_iff, Option.bind_some, hat]
        | true =>
          rw [hmm] at hleg hmt
          have hleg2 : q_leg1 T (c_pt L a2) (c_pt L a3) zk zf = (zf.1 * (q_thr T zk).toInt64 / 100, zf.2 || decide (q_thr T zk = 0)) := hleg
          have hz2 : zf.2 = false := by
            cases hq9 : zf.2 with
            | false => rfl
            | true => exact absurd hq9 hbar
          have hi8 : I (43 - zk) 8 = q_thr T zk := hb1.2.2.2.2.2.2
          by_cases ht0 : q_thr T zk = 0
          · refine ⟨(-1, c_at (zk + 1), zM), ⟨?_, rfl, eM⟩, fun zrec => ?_⟩
            · dsimp only; rw [hfold, hleg2]; unfold c_res; dsimp only; rw [decide_eq_true ht0, Bool.or_true, if_pos rfl]
            · unfold B_X2_carry_9 p_cs
              dsimp only
              rw [if_neg hne, hBk.1, bI_ift, hp7, Option.bind_some, hmt, Option.bind_some]
              dsimp only
              rw [bI_ift, hi8, if_pos ht0, Option.bind_some, hat]
          · have hdv := q_div hm1 hb2.2
            refine ⟨(z1 * q_thr T zk / nI 100, c_at (zk + 1), zM), ⟨?_, rfl, eM⟩, fun zrec => ?_⟩
            · dsimp only
              rw [hfold, hleg2]
              unfold c_res
              dsimp only
              rw [hz2, decide_eq_false ht0, Bool.or_false, if_neg (by decide), hm2, ez1]
              conv => lhs; rw [hb2.1]
              conv => rhs; rw [hb2.1]
              rw [hdv.1, hdv.2.1, lN_i]
            · unfold B_X2_carry_9 p_cs
              dsimp only
              rw [if_neg hne, hBk.1, bI_ift, hp7, Option.bind_some, hmt, Option.bind_some]
              dsimp only
              rw [bI_ift, hi8, if_neg ht0, n_let, Option.bind_some, hat]
  · rintro ⟨z1, zr, zL⟩ ⟨e1, e2, e3⟩
    dsimp only at e1 e2 e3
    have ecs : zr = none := by rw [e2]; rfl
    subst ecs
    refine ⟨(z1, zL), ⟨e1, e3⟩, fun zrec => ?_⟩
    unfold B_X2_carry_9 p_cs
    dsimp only
  · show zx = c_res (zx.toInt64, false)
    unfold c_res
    dsimp only
    rw [if_neg (by decide)]
    rw [rg_l hx (by decide), lN_i]
    exact hx.1
