/-! where one may stand -/
def q_ft1 (A : Nat → Int32) (x y s : Nat) : Bool := !(q_st A (nI s)) || (decide (A (120 + 8 * s + 6) < 0) || (!decide (q_sgS A s x y < A (120 + 8 * s + 6)) && !decide (A (120 + 8 * s + 7) < q_sgS A s x y)))
def q_ft (A : Nat → Int32) (x y : Nat) : Bool := q_fold (fun s b => b && q_ft1 A x y s) (nv (A 1)) true
theorem q_all_f {g : Nat → Bool} {zi : Nat} (h : g zi = false) : ∀ zd, q_fold (fun s b => b && g s) (zi + 1 + zd) true = false := by
  intro zd
  induction zd with
  | zero => show (_ && g zi) = false; rw [h, Bool.and_false]
  | succ zd ih =>
    show (q_fold (fun s b => b && g s) (zi + 1 + zd) true && g (zi + 1 + zd)) = false
    rw [ih, Bool.false_and]
theorem q_all_to {g : Nat → Bool} {zi zm : Nat} (h : g zi = false) (hi : zi < zm) : q_fold (fun s b => b && g s) zm true = false := by
  have h1 := q_all_f h (zm - (zi + 1))
  rw [show zi + 1 + (zm - (zi + 1)) = zm by omega] at h1
  exact h1
section Place
variable {N : pN} {P : pR} {I J : pI} {L : pL} {zk : Nat}
theorem q_sgv_n {A : Nat → Int32} {zs zx zy : Nat} (hst : q_st A (nI zs) = true) (hs : zs < 100) (hx : zx ≤ 20) (hy : zy ≤ 20) : q_sgv A (nI zs) (nI zx) (nI zy) = q_sgS A zs zx zy := by
  unfold q_sgv
  rw [hst, q_pt_n hx hy, Bool.and_self, if_pos rfl, nv_nI (zk := zs) (by omega), nv_nI (zk := zx) (by omega), nv_nI (zk := zy) (by omega)]
theorem c_fits (h : cK zk N P I J) {zx zy : Nat} (hx : zx ≤ 20) (hy : zy ≤ 20) {zn : Nat} (hn : 16 < zn) : ∃ J2 K2, f_X3_fits zn N J L P 44 (nI zx) (nI zy) = some (bI (q_ft (I 68) zx zy), J2, K2) ∧ cK zk N P I J2 := by
  have hG := h.gw
  have r1 := h.n1
  have h6 := r1.2
  have hloop := p_loopI (B := B_X3_fits_2 zn N P 44 (nI zx) (nI zy)) (zJ := fun zj (zc : Int32 × pI × pL) => zc.1 = nI zj ∧ q_fold (fun s b => b && q_ft1 (I 68) zx zy s) zj true = true ∧ cK zk N P I zc.2.1) (zE := fun (zt : Int32 × pI × pL) => zt.1 = bI (q_ft (I 68) zx zy) ∧ cK zk N P I zt.2.1) (zm := nv (I 68 1)) (zn := zn) (by omega) ?_ ?_ (nI 0, J, L) ⟨rfl, rfl, h⟩
  · obtain ⟨⟨zt, J2, K2⟩, k1, k2, k3⟩ := hloop
    dsimp only at k2 k3
    subst k2
    exact ⟨J2, K2, k1, k3⟩
  · rintro zj hj ⟨zi, J, K⟩ ⟨e1, e2, e3⟩
    dsimp only at e1 e2 e3
    subst e1
    have hJ1 : nv (J 68 1) = nv (I 68 1) := by rw [e3.2.e68]
    have tb := e3.sr.tbs
    rw [hJ1] at tb
    have hc : ¬ nI (nv (I 68 1)) ≤ nI zj := nI_ge hj (by omega)
    obtain ⟨c1, c2, c3⟩ := e3.sr.sn (zs := zj) (by rw [hJ1]; exact hj)
    rw [e3.2.e68] at c1 c2 c3
    have e6 : J 7 (zj * 8 + 6) = I 68 (120 + 8 * zj + 6) := c1 6 (by decide)
    have w6 : I 68 (120 + 8 * zj + 6) = -1 ∨ rg (I 68 (120 + 8 * zj + 6)) 1000000000 := c3.2.2.2.2.2.2
    have hq : q_fold (fun s b => b && q_ft1 (I 68) zx zy s) (zj + 1) true = q_ft1 (I 68) zx zy zj := by
      show (q_fold (fun s b => b && q_ft1 (I 68) zx zy s) zj true && q_ft1 (I 68) zx zy zj) = _
      rw [e2, Bool.true_and]
    by_cases hm : I 68 (120 + 8 * zj + 6) = -1
    · left
      have hf : q_ft1 (I 68) zx zy zj = true := by
        unfold q_ft1
        rw [decide_eq_true ((n_neg_iff (by decide) w6).mp hm), Bool.true_or, Bool.or_true]
      refine ⟨(nI (zj + 1), J, K), ⟨rfl, by rw [hq, hf], e3⟩, fun zrec => ?_⟩
      unfold B_X3_fits_2
      simp only [gp_44_0 hG, gp_1_2 hG, Option.bind_some, tb_size tb, if_neg hc, tb_get tb hj (show 6 < 8 by decide), e6, if_pos hm, nI_add]
    · have hm2 : ¬ I 68 (120 + 8 * zj + 6) < 0 := fun e => hm ((n_neg_iff (by decide) w6).mpr e)
      cases hst : q_st (I 68) (nI zj) with
      | false =>
        left
        have hf : q_ft1 (I 68) zx zy zj = true := by
          unfold q_ft1
          rw [hst]; rfl
        refine ⟨(nI (zj + 1), J, K), ⟨rfl, by rw [hq, hf], e3⟩, fun zrec => ?_⟩
        unfold B_X3_fits_2
        simp only [gp_44_0 hG, gp_1_2 hG, Option.bind_some, tb_size tb, if_neg hc, tb_get tb hj (show 6 < 8 by decide), e6, if_neg hm, e3.stands, hst, bI_iff, nI_add]
      | true =>
        obtain ⟨J2, K2, j1, j2, j3⟩ := e3.sg (L := K) hn (nI zj) (nI zx) (nI zy)
        rw [q_sgv_n hst (by omega) hx hy] at j1
        have e7 : J 7 (zj * 8 + 7) = I 68 (120 + 8 * zj + 7) := c2.resolve_left hm
        have e7b : J2 7 (zj * 8 + 7) = I 68 (120 + 8 * zj + 7) := by rw [j3 7 (by decide) (by decide) (by decide) (by decide) (by decide) (by decide) (by decide)]; exact e7
        have tb2 : TB N P J2 6 7 6 8 (nv (I 68 1)) := tb.of (fun zi => by rw [j3 6 (by decide) (by decide) (by decide) (by decide) (by decide) (by decide) (by decide)])
        have hqf : q_ft1 (I 68) zx zy zj = (!decide (q_sgS (I 68) zj zx zy < I 68 (120 + 8 * zj + 6)) && !decide (I 68 (120 + 8 * zj + 7) < q_sgS (I 68) zj zx zy)) := by
          unfold q_ft1
          rw [hst, decide_eq_false hm2]
          rfl
        by_cases hlo : q_sgS (I 68) zj zx zy < I 68 (120 + 8 * zj + 6)
        · right
          rw [decide_eq_true hlo, Bool.not_true, Bool.false_and] at hqf
          refine ⟨(nI 0, J2, K2), ⟨?_, j2⟩, fun zrec => ?_⟩
          · show nI 0 = bI (q_ft (I 68) zx zy)
            unfold q_ft
            rw [q_all_to hqf hj]; rfl
          · unfold B_X3_fits_2
            simp only [gp_44_0 hG, gp_1_2 hG, Option.bind_some, tb_size tb, if_neg hc, tb_get tb hj (show 6 < 8 by decide), e6, if_neg hm, e3.stands, hst, bI_ift, j1, if_pos hlo]
        · rw [decide_eq_false hlo, Bool.not_false, Bool.true_and] at hqf
          by_cases hhi : I 68 (120 + 8 * zj + 7) < q_sgS (I 68) zj zx zy
          · right
            have hhi2 : ¬ q_sgS (I 68) zj zx zy ≤ I 68 (120 + 8 * zj + 7) := Int32.not_le.mpr hhi
            rw [decide_eq_true hhi, Bool.not_true] at hqf
            refine ⟨(nI 0, J2, K2), ⟨?_, j2⟩, fun zrec => ?_⟩
            · show nI 0 = bI (q_ft (I 68) zx zy)
              unfold q_ft
              rw [q_all_to hqf hj]; rfl
            · unfold B_X3_fits_2
              simp only [gp_44_0 hG, gp_1_2 hG, Option.bind_some, tb_size tb, if_neg hc, tb_get tb hj (show 6 < 8 by decide), e6, if_neg hm, e3.stands, hst, bI_ift, j1, if_neg hlo, tb_get tb2 hj (show 7 < 8 by decide), e7b, if_neg hhi2]
          · left
            have hhi2 : q_sgS (I 68) zj zx zy ≤ I 68 (120 + 8 * zj + 7) := Int32.not_lt.mp hhi
            rw [decide_eq_false hhi, Bool.not_false] at hqf
            refine ⟨(nI (zj + 1), J2, K2), ⟨rfl, by rw [hq, hqf], j2⟩, fun zrec => ?_⟩
            unfold B_X3_fits_2
            simp only [gp_44_0 hG, gp_1_2 hG, Option.bind_some, tb_size tb, if_neg hc, tb_get tb hj (show 6 < 8 by decide), e6, if_neg hm, e3.stands, hst, bI_ift, j1, if_neg hlo, tb_get tb2 hj (show 7 < 8 by decide), e7b, if_pos hhi2, nI_add]
  · rintro ⟨zi, J, K⟩ ⟨e1, e2, e3⟩
    dsimp only at e1 e2 e3
    subst e1
    have hJ1 : nv (J 68 1) = nv (I 68 1) := by rw [e3.2.e68]
    have tb := e3.sr.tbs
    rw [hJ1] at tb
    refine ⟨(nI 1, J, K), ⟨?_, e3⟩, fun zrec => ?_⟩
    · show nI 1 = bI (q_ft (I 68) zx zy)
      unfold q_ft
      rw [e2]; rfl
    · unfold B_X3_fits_2
      simp only [gp_44_0 hG, gp_1_2 hG, Option.bind_some, tb_size tb, if_pos (Int32.le_refl (nI (nv (I 68 1))))]
theorem m_fits (h : mK zk N P I J) {zx zy : Nat} (hx : zx ≤ 20) (hy : zy ≤ 20) {zn : Nat} (hn : 200 < zn) : ∃ J2 K2, f_X12_fits zn N J L P 67 (nI zx) (nI zy) = some (bI (q_ft (I 68) zx zy), J2, K2) ∧ mK zk N P I J2 := by
  have hG := h.gw
  have r1 := h.n1
  have h6 := r1.2
  have hib : p_ib N 68 (nI 1) = true := ib_68 hG (by decide)
  have hloop := p_loopI (B := B_X12_fits_5 zn N P 67 (nI zx) (nI zy)) (zJ := fun zj (zc : Int32 × Int32 × pI × pL) => zc.1 = bI (q_fold (fun s b => b && q_ft1 (I 68) zx zy s) zj true) ∧ zc.2.1 = nI zj ∧ mK zk N P I zc.2.2.1) (zE := fun (zt : Int32 × pI × pL) => zt.1 = bI (q_ft (I 68) zx zy) ∧ mK zk N P I zt.2.1) (zm := nv (I 68 1)) (zn := zn) (by omega) ?_ ?_ (nI 1, nI 0, J, L) ⟨rfl, rfl, h⟩
  · obtain ⟨⟨zt, J2, K2⟩, k1, k2, k3⟩ := hloop
    dsimp only at k2 k3
    subst k2
    refine ⟨J2, K2, ?_, k3⟩
    unfold f_X12_fits
    rw [k1, Option.bind_some]
    exact n_ck (bI_ck _)
  · rintro zj hj ⟨zb, zi, J, K⟩ ⟨e0, e1, e3⟩
    dsimp only at e0 e1 e3
    subst e1
    have hc : ¬ J 68 (nI 1).toNatClampNeg ≤ nI zj := by rw [nI_clamp (by decide), e3.2.e68, r1.1]; exact nI_ge hj (by omega)
    have hs : (q_fold (fun s b => b && q_ft1 (I 68) zx zy s) (zj + 1) true) = (q_fold (fun s b => b && q_ft1 (I 68) zx zy s) zj true && q_ft1 (I 68) zx zy zj) := rfl
    cases hb : q_fold (fun s b => b && q_ft1 (I 68) zx zy s) zj true with
    | false =>
      rw [hb] at e0 hs
      right
      refine ⟨(zb, J, K), ⟨?_, e3⟩, fun zrec => ?_⟩
      · show zb = bI (q_ft (I 68) zx zy)
        have hz : q_fold (fun s b => b && q_ft1 (I 68) zx zy s) (zj + (nv (I 68 1) - zj)) true = false := by
          generalize nv (I 68 1) - zj = zd
          induction zd with
          | zero => exact hb
          | succ zd ih => show (q_fold (fun s b => b && q_ft1 (I 68) zx zy s) (zj + zd) true && _) = false; rw [ih, Bool.false_and]
        rw [show zj + (nv (I 68 1) - zj) = nv (I 68 1) by omega] at hz
        unfold q_ft
        rw [hz]; exact e0
      · subst e0
        unfold B_X12_fits_5
        simp only [gp_67_0 hG, Option.bind_some, n_ck hib, if_neg hc, bI_iff]
    | true =>
      rw [hb] at e0
      rw [hb, Bool.true_and] at hs
      left
      subst e0
      obtain ⟨c1, c2, c3⟩ := e3.sr.sn (zs := zj) (by rw [e3.2.e68]; exact hj)
      rw [e3.2.e68] at c1 c2 c3
      cases hst : q_st (I 68) (nI zj) with
      | false =>
        have hf : q_ft1 (I 68) zx zy zj = true := by
          unfold q_ft1
          rw [hst]; rfl
        refine ⟨(nI 1, nI (zj + 1), J, K), ⟨by dsimp only; rw [hs, hf]; rfl, rfl, e3⟩, fun zrec => ?_⟩
        unfold B_X12_fits_5
        simp only [gp_67_0 hG, Option.bind_some, n_ck hib, if_neg hc, bI_ift, e3.sees, hst, bI_iff, nI_add]
      | true =>
        have s6 := e3.sndr (zs := zj) (zj := 6) (by omega) (by decide)
        by_cases hm : I 68 (120 + 8 * zj + 6) < 0
        · have hf : q_ft1 (I 68) zx zy zj = true := by
            unfold q_ft1
            rw [decide_eq_true hm, Bool.true_or, Bool.or_true]
          refine ⟨(nI 1, nI (zj + 1), J, K), ⟨by dsimp only; rw [hs, hf]; rfl, rfl, e3⟩, fun zrec => ?_⟩
          unfold B_X12_fits_5
          simp only [gp_67_0 hG, Option.bind_some, n_ck hib, if_neg hc, bI_ift, e3.sees, hst, s6, if_pos hm, nI_add]
        · obtain ⟨J2, K2, j1, j2, _⟩ := e3.sg (L := K) hj hx hy hn
          have t6 := j2.sndr (zs := zj) (zj := 6) (by omega) (by decide)
          have t7 := j2.sndr (zs := zj) (zj := 7) (by omega) (by decide)
          have hf : q_ft1 (I 68) zx zy zj = (!decide (q_sgS (I 68) zj zx zy < I 68 (120 + 8 * zj + 6)) && !decide (I 68 (120 + 8 * zj + 7) < q_sgS (I 68) zj zx zy)) := by
            unfold q_ft1
            rw [hst, decide_eq_false hm]
            rfl
          cases hv : (!decide (q_sgS (I 68) zj zx zy < I 68 (120 + 8 * zj + 6)) && !decide (I 68 (120 + 8 * zj + 7) < q_sgS (I 68) zj zx zy)) with
          | false =>
            rw [hv] at hf
            refine ⟨(nI 0, nI (zj + 1), J2, K2), ⟨by dsimp only; rw [hs, hf]; rfl, rfl, j2⟩, fun zrec => ?_⟩
            unfold B_X12_fits_5
            simp only [gp_67_0 hG, Option.bind_some, n_ck hib, if_neg hc, bI_ift, e3.sees, hst, s6, if_neg hm, j1, t6, t7, m_isIn, hv, bI_iff, nI_add]
          | true =>
            rw [hv] at hf
            refine ⟨(nI 1, nI (zj + 1), J2, K2), ⟨by dsimp only; rw [hs, hf]; rfl, rfl, j2⟩, fun zrec => ?_⟩
            unfold B_X12_fits_5
            simp only [gp_67_0 hG, Option.bind_some, n_ck hib, if_neg hc, bI_ift, e3.sees, hst, s6, if_neg hm, j1, t6, t7, m_isIn, hv, nI_add]
  · rintro ⟨zb, zi, J, K⟩ ⟨e0, e1, e3⟩
    dsimp only at e0 e1 e3
    subst e1
    have hc : J 68 (nI 1).toNatClampNeg ≤ nI (nv (I 68 1)) := by rw [nI_clamp (by decide), e3.2.e68, ← r1.1]; exact Int32.le_refl _
    refine ⟨(zb, J, K), ⟨e0, e3⟩, fun zrec => ?_⟩
    unfold B_X12_fits_5
    simp only [gp_67_0 hG, Option.bind_some, n_ck hib, if_pos hc]
def q_nfit (A : Nat → Int32) : Nat → Nat
  | 0 => 0
  | k + 1 => q_nfit A k + (if q_ft A (k % 21) (k / 21) = true then 1 else 0)
theorem q_nfit_s {A : Nat → Int32} {k : Nat} : q_nfit A (k + 1) = q_nfit A k + (if q_ft A (k % 21) (k / 21) = true then 1 else 0) := rfl
theorem q_nfit_le (A : Nat → Int32) : ∀ k, q_nfit A k ≤ k
  | 0 => Nat.le_refl _
  | k + 1 => by
    have := q_nfit_le A k
    unfold q_nfit
    split <;> omega
theorem q_dm {zi : Nat} (h : zi < 441) : nI zi - nI (zi / 21) * nI 21 = nI (zi % 21) ∧ nI zi / nI 21 = nI (zi / 21) ∧ zi % 21 ≤ 20 ∧ zi / 21 ≤ 20 := ⟨by rw [← pk_div (a := zi) (d := 21) (by omega) (by decide) (by decide)]; exact pk_rem (by omega) (by decide) (by decide), pk_div (by omega) (by decide) (by decide), by omega, by omega⟩
theorem c_places (h : IV zk N P I) {zn : Nat} (hn : 3000 < zn) : ∃ J K, f_X11_places zn N I L P 0 = some (nI (q_nfit (I 68) 441), J, K) ∧ cK zk N P I J := by
  have hG := h.gw
  have hloop := p_loopI (B := B_X11_places_4 zn N P 0) (zJ := fun zj (zc : Int32 × Int32 × pI × pL) => zc.1 = nI (q_nfit (I 68) zj) ∧ zc.2.1 = nI zj ∧ cK zk N P I zc.2.2.1) (zE := fun (zt : Int32 × pI × pL) => zt.1 = nI (q_nfit (I 68) 441) ∧ cK zk N P I zt.2.1) (zm := 441) (zn := zn) (by omega) ?_ ?_ (nI 0, nI 0, I, L) ⟨rfl, rfl, cK.rf h⟩
  · obtain ⟨⟨zt, J2, K2⟩, k1, k2, k3⟩ := hloop
    dsimp only at k2 k3
    subst k2
    refine ⟨J2, K2, ?_, k3⟩
    unfold f_X11_places
    rw [k1, Option.bind_some]
  · rintro zj hj ⟨zb, zi, J, K⟩ ⟨e0, e1, e3⟩
    dsimp only at e0 e1 e3
    subst e0
    subst e1
    left
    obtain ⟨d1, d2, d3, d4⟩ := q_dm hj
    have hc : ¬ nI 441 ≤ nI zj := nI_ge hj (by decide)
    obtain ⟨J2, K2, j1, j2⟩ := c_fits (L := K) e3 d3 d4 (zn := zn) (by omega)
    refine ⟨(nI (q_nfit (I 68) (zj + 1)), nI (zj + 1), J2, K2), ⟨rfl, rfl, j2⟩, fun zrec => ?_⟩
    unfold B_X11_places_4
    rw [q_nfit_s]
    simp only [if_neg hc, gp_0_3 hG, Option.bind_some, d1, d2, j1, n_let]
    cases q_ft (I 68) (zj % 21) (zj / 21) with
    | false => simp only [bI_iff, Bool.false_eq_true, if_false, nI_add, Nat.add_zero]
    | true => simp only [bI_ift, if_true, nI_add]
  · rintro ⟨zb, zi, J, K⟩ ⟨e0, e1, e3⟩
    dsimp only at e0 e1 e3
    subst e1
    refine ⟨(zb, J, K), ⟨e0, e3⟩, fun zrec => ?_⟩
    unfold B_X11_places_4
    simp only [if_pos (Int32.le_refl (nI 441))]
theorem m_places (h : IV zk N P I) {zn : Nat} (hn : 3000 < zn) : ∃ J K, f_X12_places zn N I L P 67 = some (nI (q_nfit (I 68) 441), J, K) ∧ mK zk N P I J := by
  have hloop := p_loopI (B := B_X12_places_4 zn N P 67) (zJ := fun zj (zc : Int32 × Int32 × pI × pL) => zc.1 = nI (q_nfit (I 68) zj) ∧ zc.2.1 = nI zj ∧ mK zk N P I zc.2.2.1) (zE := fun (zt : Int32 × pI × pL) => zt.1 = nI (q_nfit (I 68) 441) ∧ mK zk N P I zt.2.1) (zm := 441) (zn := zn) (by omega) ?_ ?_ (nI 0, nI 0, I, L) ⟨rfl, rfl, mK.rf h⟩
  · obtain ⟨⟨zt, J2, K2⟩, k1, k2, k3⟩ := hloop
    dsimp only at k2 k3
    subst k2
    refine ⟨J2, K2, ?_, k3⟩
    unfold f_X12_places
    rw [k1, Option.bind_some]
  · rintro zj hj ⟨zb, zi, J, K⟩ ⟨e0, e1, e3⟩
    dsimp only at e0 e1 e3
    subst e0
    subst e1
    left
    obtain ⟨d1, d2, d3, d4⟩ := q_dm hj
    have hc : ¬ nI 441 ≤ nI zj := nI_ge hj (by decide)
    obtain ⟨J2, K2, j1, j2⟩ := m_fits (L := K) e3 d3 d4 (zn := zn) (by omega)
    refine ⟨(nI (q_nfit (I 68) (zj + 1)), nI (zj + 1), J2, K2), ⟨rfl, rfl, j2⟩, fun zrec => ?_⟩
    unfold B_X12_places_4
    rw [q_nfit_s]
    simp only [if_neg hc, Option.bind_some, d1, d2, j1, n_let]
    cases q_ft (I 68) (zj % 21) (zj / 21) with
    | false => simp only [bI_iff, Bool.false_eq_true, if_false, nI_add, Nat.add_zero]
    | true => simp only [bI_ift, if_true, nI_add]
  · rintro ⟨zb, zi, J, K⟩ ⟨e0, e1, e3⟩
    dsimp only at e0 e1 e3
    subst e1
    refine ⟨(zb, J, K), ⟨e0, e3⟩, fun zrec => ?_⟩
    unfold B_X12_places_4
    simp only [if_pos (Int32.le_refl (nI 441))]
/-- the k-th place that fits, of those from zi on, zd of them -/
def q_pls (A : Nat → Int32) (k : Int32) : Nat → Nat → Int32
  | 0, _ => -1
  | zd + 1, zi => if q_ft A (zi % 21) (zi / 21) = true then (if nI (q_nfit A zi) = k then nI (zi / 21 * 100 + zi % 21) else q_pls A k zd (zi + 1)) else q_pls A k zd (zi + 1)
theorem q_pls_s {A : Nat → Int32} {k : Int32} {zd zi : Nat} : q_pls A k (zd + 1) zi = if q_ft A (zi % 21) (zi / 21) = true then (if nI (q_nfit A zi) = k then nI (zi / 21 * 100 + zi % 21) else q_pls A k zd (zi + 1)) else q_pls A k zd (zi + 1) := rfl
theorem q_pls_neg {A : Nat → Int32} {k : Int32} (hk : k < 0) : ∀ zd zi, zi + zd ≤ 441 → q_pls A k zd zi = -1 := by
  intro zd
  induction zd with
  | zero => intro zi _; rfl
  | succ zd ih =>
    intro zi hi
    have hne : ¬ nI (q_nfit A zi) = k := fun e => by
      rw [← e] at hk
      have := q_nfit_le A zi
      exact nI_pos (by omega) hk
    rw [q_pls_s, if_neg hne, ih (zi + 1) (by omega), ite_self]
theorem c_place (h : IV zk N P I) {zn : Nat} (hn : 3000 < zn) (x : Int32) : ∃ J K, f_X11_place zn N I L P 0 x = some (q_pls (I 68) x 441 0, J, K) ∧ cK zk N P I J := by
  have hG := h.gw
  obtain ⟨zR, hR⟩ : ∃ zR, zR = q_pls (I 68) x 441 0 := ⟨_, rfl⟩
  have hneg : x < 0 → zR = -1 := fun hx => hR.trans (q_pls_neg hx 441 0 (by omega))
  rw [← hR]
  have hloop := p_loopI (B := B_X11_place_4 zn N P 0 x) (zJ := fun zj (zc : Int32 × Int32 × pI × pL) => zc.1 = nI (q_nfit (I 68) zj) ∧ zc.2.1 = nI zj ∧ cK zk N P I zc.2.2.1 ∧ zR = q_pls (I 68) x (441 - zj) zj) (zE := fun (zt : Int32 × pI × pL) => zt.1 = zR ∧ cK zk N P I zt.2.1) (zm := 441) (zn := zn) (by omega) ?_ ?_ (nI 0, nI 0, I, L) ⟨rfl, rfl, cK.rf h, hR⟩
  · obtain ⟨⟨zt, J2, K2⟩, k1, k2, k3⟩ := hloop
    dsimp only at k2 k3
    subst k2
    exact ⟨J2, K2, k1, k3⟩
  · rintro zj hj ⟨zb, zi, J, K⟩ ⟨e0, e1, e3, e4⟩
    dsimp only at e0 e1 e3 e4
    subst e0
    subst e1
    obtain ⟨d1, d2, d3, d4⟩ := q_dm hj
    have hc : ¬ nI 441 ≤ nI zj := nI_ge hj (by decide)
    by_cases hx0 : x < 0
    · right
      refine ⟨(-1, J, K), ⟨(hneg hx0).symm, e3⟩, fun zrec => ?_⟩
      unfold B_X11_place_4
      simp only [if_neg hc, if_pos hx0]
    · obtain ⟨J2, K2, j1, j2⟩ := c_fits (L := K) e3 d3 d4 (zn := zn) (by omega)
      have hcm : nI (zj / 21) * nI 100 = nI (zj / 21 * 100) := pk_mul _ _
      rw [show 441 - zj = (441 - (zj + 1)) + 1 by omega] at e4
      rw [q_pls_s] at e4
      have hnx : q_nfit (I 68) (zj + 1) = q_nfit (I 68) zj + (if q_ft (I 68) (zj % 21) (zj / 21) = true then 1 else 0) := rfl
      cases hq : q_ft (I 68) (zj % 21) (zj / 21) with
      | false =>
        rw [hq] at j1 e4 hnx
        rw [if_neg (by decide)] at e4 hnx
        left
        refine ⟨(nI (q_nfit (I 68) (zj + 1)), nI (zj + 1), J2, K2), ⟨rfl, rfl, j2, e4⟩, fun zrec => ?_⟩
        unfold B_X11_place_4
        simp only [if_neg hc, if_neg hx0, gp_0_3 hG, Option.bind_some, d1, d2, j1, bI_iff, nI_add, hnx, Nat.add_zero]
      | true =>
        rw [hq] at j1 e4 hnx
        rw [if_pos rfl] at e4 hnx
        by_cases hk5 : nI (q_nfit (I 68) zj) = x
        · right
          rw [if_pos hk5] at e4
          refine ⟨(nI (zj / 21 * 100 + zj % 21), J2, K2), ⟨e4.symm, j2⟩, fun zrec => ?_⟩
          unfold B_X11_place_4
          simp only [if_neg hc, if_neg hx0, gp_0_3 hG, Option.bind_some, d1, d2, j1, bI_ift, if_pos hk5, hcm, nI_add]
        · left
          rw [if_neg hk5] at e4
          refine ⟨(nI (q_nfit (I 68) (zj + 1)), nI (zj + 1), J2, K2), ⟨rfl, rfl, j2, e4⟩, fun zrec => ?_⟩
          unfold B_X11_place_4
          simp only [if_neg hc, if_neg hx0, gp_0_3 hG, Option.bind_some, d1, d2, j1, bI_ift, if_neg hk5, nI_add, hnx]
  · rintro ⟨zb, zi, J, K⟩ ⟨e0, e1, e3, e4⟩
    dsimp only at e0 e1 e3 e4
    subst e1
    refine ⟨(-1, J, K), ⟨e4.symm, e3⟩, fun zrec => ?_⟩
    unfold B_X11_place_4
    simp only [if_pos (Int32.le_refl (nI 441))]
theorem m_place (h : IV zk N P I) {zn : Nat} (hn : 3000 < zn) (x : Int32) : ∃ J K, f_X12_place zn N I L P 67 x = some (q_pls (I 68) x 441 0, J, K) ∧ mK zk N P I J := by
  obtain ⟨zR, hR⟩ : ∃ zR, zR = q_pls (I 68) x 441 0 := ⟨_, rfl⟩
  rw [← hR]
  have hloop := p_loopI (B := B_X12_place_4 zn N P 67 x) (zJ := fun zj (zc : Int32 × Int32 × pI × pL) => zc.1 = nI (q_nfit (I 68) zj) ∧ zc.2.1 = nI zj ∧ mK zk N P I zc.2.2.1 ∧ zR = q_pls (I 68) x (441 - zj) zj) (zE := fun (zt : Int32 × pI × pL) => zt.1 = zR ∧ mK zk N P I zt.2.1) (zm := 441) (zn := zn) (by omega) ?_ ?_ (nI 0, nI 0, I, L) ⟨rfl, rfl, mK.rf h, hR⟩
  · obtain ⟨⟨zt, J2, K2⟩, k1, k2, k3⟩ := hloop
    dsimp only at k2 k3
    subst k2
    exact ⟨J2, K2, k1, k3⟩
  · rintro zj hj ⟨zb, zi, J, K⟩ ⟨e0, e1, e3, e4⟩
    dsimp only at e0 e1 e3 e4
    subst e0
    subst e1
    obtain ⟨d1, d2, d3, d4⟩ := q_dm hj
    have hc : ¬ nI 441 ≤ nI zj := nI_ge hj (by decide)
    obtain ⟨J2, K2, j1, j2⟩ := m_fits (L := K) e3 d3 d4 (zn := zn) (by omega)
    rw [show 441 - zj = (441 - (zj + 1)) + 1 by omega] at e4
    rw [q_pls_s] at e4
    have hnx : q_nfit (I 68) (zj + 1) = q_nfit (I 68) zj + (if q_ft (I 68) (zj % 21) (zj / 21) = true then 1 else 0) := rfl
    have hcm : nI 100 * nI (zj / 21) = nI (zj / 21 * 100) := by rw [pk_mul, Nat.mul_comm]
    cases hq : q_ft (I 68) (zj % 21) (zj / 21) with
    | false =>
      rw [hq] at j1 e4 hnx
      rw [if_neg (by decide)] at e4 hnx
      left
      refine ⟨(nI (q_nfit (I 68) (zj + 1)), nI (zj + 1), J2, K2), ⟨rfl, rfl, j2, e4⟩, fun zrec => ?_⟩
      unfold B_X12_place_4
      simp only [if_neg hc, Option.bind_some, d1, d2, j1, bI_iff, nI_add, hnx, Nat.add_zero]
    | true =>
      rw [hq] at j1 e4 hnx
      rw [if_pos rfl] at e4 hnx
      by_cases hk5 : nI (q_nfit (I 68) zj) = x
      · right
        rw [if_pos hk5] at e4
        refine ⟨(nI (zj / 21 * 100 + zj % 21), J2, K2), ⟨e4.symm, j2⟩, fun zrec => ?_⟩
        unfold B_X12_place_4
        simp only [if_neg hc, Option.bind_some, d1, d2, j1, bI_ift, if_pos hk5, hcm, nI_add]
      · left
        rw [if_neg hk5] at e4
        refine ⟨(nI (q_nfit (I 68) (zj + 1)), nI (zj + 1), J2, K2), ⟨rfl, rfl, j2, e4⟩, fun zrec => ?_⟩
        unfold B_X12_place_4
        simp only [if_neg hc, Option.bind_some, d1, d2, j1, bI_ift, if_neg hk5, nI_add, hnx]
  · rintro ⟨zb, zi, J, K⟩ ⟨e0, e1, e3, e4⟩
    dsimp only at e0 e1 e3 e4
    subst e1
    refine ⟨(-1, J, K), ⟨e4.symm, e3⟩, fun zrec => ?_⟩
    unfold B_X12_place_4
    simp only [if_pos (Int32.le_refl (nI 441))]
end Place
theorem sp_places {n zk : Nat} (hn : 3000 < n) : Sp_places n (Ivv zk) (Ivv (zk + 1)) := by
  intro N I L P h
  have h : IV zk N P I := h
  obtain ⟨J, K, k1, k2⟩ := c_places (L := L) h hn
  obtain ⟨J2, K2, m1, m2⟩ := m_places (L := K) k2.1 hn
  exact ⟨_, _, k1, m1, by dsimp only; rw [k2.2.e68], m2.1.up⟩
theorem sp_place {n zk : Nat} (hn : 3000 < n) : Sp_place n (Ivv zk) (Ivv (zk + 1)) := by
  intro N I L P h x1
  have h : IV zk N P I := h
  obtain ⟨J, K, k1, k2⟩ := c_place (L := L) h hn x1
  obtain ⟨J2, K2, m1, m2⟩ := m_place (L := K) k2.1 hn x1
  exact ⟨_, _, k1, m1, by dsimp only; rw [k2.2.e68], m2.1.up⟩
