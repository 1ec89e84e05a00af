/-! who is heard -/
theorem q_fold_iz {α : Type} {f : Nat → α → α} {zn : Nat} : ∀ zj zx, (∀ zk, zn ≤ zk → zk < zn + zj → ∀ za, f zk za = za) → q_fold f (zn + zj) zx = q_fold f zn zx := by
  intro zj zx
  induction zj with
  | zero => intro _; rfl
  | succ zj ih =>
    intro h
    show f (zn + zj) (q_fold f (zn + zj) zx) = _
    rw [h (zn + zj) (by omega) (by omega)]
    exact ih (fun zk a b => h zk a (by omega))
theorem q_fold_to {α : Type} {f : Nat → α → α} {zn zm : Nat} {zx : α} (hle : zn ≤ zm) (h : ∀ zk, zn ≤ zk → zk < zm → ∀ za, f zk za = za) : q_fold f zm zx = q_fold f zn zx := by
  have h1 := q_fold_iz (f := f) (zn := zn) (zm - zn) zx (fun zk a b => h zk a (by omega))
  rw [show zn + (zm - zn) = zm by omega] at h1
  exact h1
def q_s0 (A : Nat → Int32) (s x y : Nat) : Int32 := if q_st A (nI s) = true then q_sgS A s x y else nI 0
def q_nzf (A : Nat → Int32) (s x y t : Nat) (acc : Int64) : Int64 := if t = s then acc else if q_st A (nI t) = true then (if A (120 + 8 * t + 2) = A (120 + 8 * s + 2) then acc + (q_sgS A t x y).toInt64 else acc) else acc
def q_nz (A : Nat → Int32) (s x y : Nat) : Int64 := q_fold (q_nzf A s x y) (nv (A 1)) (A 13).toInt64
def q_hd (A : Nat → Int32) (s x y : Nat) : Bool := q_st A (nI s) && (!decide ((q_sgS A s x y).toInt64 ≤ 0) && !decide ((q_sgS A s x y).toInt64 * 100 < (A 14).toInt64 * q_nz A s x y))
theorem q_st_ge {A : Nat → Int32} {zh zs : Nat} (h1 : rg (A 1) zh) (hs : nv (A 1) ≤ zs) (hh : zs < 2 ^ 31) : q_st A (nI zs) = false := by
  have e2 : A 1 ≤ nI zs := by rw [h1.1]; exact nI_le hs hh
  unfold q_st
  rw [decide_eq_true e2]
  cases decide (nI zs < 0) <;> rfl
theorem q_st_lt {A : Nat → Int32} {zh zs : Nat} (h1 : rg (A 1) zh) (hh : zs < 2 ^ 31) (h : q_st A (nI zs) = true) : zs < nv (A 1) := by
  by_cases hc : zs < nv (A 1)
  · exact hc
  · rw [q_st_ge h1 (by omega) hh] at h; cases h
theorem n_posl {x : Int32} : (0 < x) ↔ ¬ (x.toInt64 ≤ 0) := by
  have e1 : (0 : Int32).toInt = 0 := rfl
  have e2 : (0 : Int64).toInt = 0 := rfl
  rw [Int32.lt_iff_toInt_lt, Int64.le_iff_toInt_le, Int32.toInt_toInt64, e1, e2]
  omega
def c_hF (I J : pI) : Prop := ∀ zq, zq ≠ 21 → zq ≠ 29 → zq ≠ 30 → zq ≠ 31 → zq ≠ 44 → zq ≠ 45 → zq ≠ 46 → zq ≠ 47 → J zq = I zq
theorem c_hF.rf {I : pI} : c_hF I I := fun _ _ _ _ _ _ _ _ _ => rfl
theorem c_hF.tr {I J K : pI} (h1 : c_hF I J) (h2 : c_hF J K) : c_hF I K := fun zq a b c d e f g h => (h2 zq a b c d e f g h).trans (h1 zq a b c d e f g h)
theorem c_gF.h {I J : pI} (h1 : c_gF I J) : c_hF I J := fun zq a b c d e f g _ => h1 zq a b c d e f g
theorem c_hF.e68 {I J : pI} (h : c_hF I J) : J 68 = I 68 := h 68 (by decide) (by decide) (by decide) (by decide) (by decide) (by decide) (by decide) (by decide)
theorem c_gF.e68 {I J : pI} (h : c_gF I J) : J 68 = I 68 := h 68 (by decide) (by decide) (by decide) (by decide) (by decide) (by decide) (by decide)
theorem m_gF.e68 {I J : pI} (h : m_gF I J) : J 68 = I 68 := h.1 68 (by decide) (by decide) (by decide)
section Heard
variable {N : pN} {P : pR} {I J : pI} {L : pL} {zk : Nat}
theorem c_setting (hG : GW N P) (hS : SR N P I 1 0) {zw : Nat} (hw : zw < 7) : f_X7_setting N I P 1 (nI zw) = some (I 68 (11 + zw)) := by
  have t1 : TB N P I 14 15 7 1 7 := hS.rg.1
  have c1 : I 15 (zw * 1 + 0) = I 68 (11 + zw) := (hS.rg.2.1 zw hw).1
  unfold f_X7_setting
  rw [gp_1_6 hG, Option.bind_some, tb_get t1 hw (show 0 < 1 by decide), Option.bind_some, c1]
theorem q_pt_n {zx zy : Nat} (hx : zx ≤ 20) (hy : zy ≤ 20) : q_pt (nI zx) (nI zy) = true := by
  unfold q_pt
  rw [decide_eq_false (nI_pos (by omega)), decide_eq_false (nI_ge (show zx < 21 by omega) (by omega)), decide_eq_false (nI_pos (by omega)), decide_eq_false (nI_ge (show zy < 21 by omega) (by omega))]
  rfl
theorem q_s0_max (hS : SR N P I 1 0) {zs zx zy : Nat} (hs : zs < 100) (hx : zx ≤ 20) (hy : zy ≤ 20) : (if nI 0 < q_sgv (I 68) (nI zs) (nI zx) (nI zy) then q_sgv (I 68) (nI zs) (nI zx) (nI zy) else nI 0) = q_s0 (I 68) zs zx zy := by
  have r1 : rg (I 68 1) 6 := hS.rs.1
  unfold q_sgv q_s0
  rw [q_pt_n hx hy, Bool.and_true]
  cases hst : q_st (I 68) (nI zs) with
  | false =>
    rw [if_neg (show ¬ false = true by decide), if_neg (show ¬ false = true by decide)]
    decide
  | true =>
    have hlt := q_st_lt r1 (by omega) hst
    have hr := q_sgS_rg hS hlt hx hy
    rw [if_pos rfl, if_pos rfl, nv_nI (zk := zs) (by omega), nv_nI (zk := zx) (by omega), nv_nI (zk := zy) (by omega)]
    split
    · rfl
    · rename_i hz
      rw [hr.1] at hz ⊢
      have h2 := hr.2
      by_cases h0 : nv (q_sgS (I 68) zs zx zy) = 0
      · rw [h0]
      · exact absurd (nI_lt (by omega) (by omega)) hz
theorem c_listen (h : IV zk N P I) {zx zy : Nat} (hx : zx ≤ 20) (hy : zy ≤ 20) {zn : Nat} (hn : 16 < zn) : ∃ J K, f_X3_listen zn N I L P 44 (nI zx) (nI zy) = some (J, K) ∧ IV zk N P J ∧ c_hF I J ∧ ∀ zs, zs < 6 → J 47 zs = q_s0 (I 68) zs zx zy := by
  have hG := h.gw
  have hloop := p_loopI (B := B_X3_listen_2 zn N P 44 (nI zx) (nI zy)) (zJ := fun zj (zs : Int32 × pI × pL) => zs.1 = nI zj ∧ IV zk N P zs.2.1 ∧ c_hF I zs.2.1 ∧ ∀ zt, zt < zj → zs.2.1 47 zt = q_s0 (I 68) zt zx zy) (zE := fun (zt : pI × pL) => IV zk N P zt.1 ∧ c_hF I zt.1 ∧ ∀ zs, zs < 6 → zt.1 47 zs = q_s0 (I 68) zs zx zy) (zm := 6) (zn := zn) (by omega) ?_ ?_ (nI 0, I, L) ⟨rfl, h, c_hF.rf, fun zt ht => by omega⟩
  · obtain ⟨⟨J, K⟩, k1, k2, k3, k4⟩ := hloop
    refine ⟨J, K, ?_, k2, k3, k4⟩
    unfold f_X3_listen
    rw [k1, Option.bind_some]
  · rintro zj hj ⟨zi, J, K⟩ ⟨e1, e2, e3, e4⟩
    dsimp only at e1 e2 e3 e4
    subst e1
    left
    obtain ⟨J2, K2, k1, k2, k3⟩ := c_signal (L := K) e2 (zn := zn) hn (nI zj) (nI zx) (nI zy)
    have hc : ¬ nI (N.2 47).2 ≤ nI zj := by rw [gn_47 hG]; exact nI_ge hj (by decide)
    have hib : p_ib N 47 (nI zj) = true := n_ib (gn_47 hG) hj (by decide)
    have e47 : J2 47 = J 47 := k3 47 (by decide) (by decide) (by decide) (by decide) (by decide) (by decide) (by decide)
    refine ⟨(nI (zj + 1), p_u J2 47 zj (q_s0 (I 68) zj zx zy), K2), ⟨rfl, ?_, ?_, ?_⟩, fun zrec => ?_⟩
    · exact k2.scratch (fun zq hq => p_u_ne (by omega))
    · exact e3.tr (fun zq a b c d e f g h => by dsimp only; rw [p_u_ne h, k3 zq a b c d e f g])
    · intro zt ht
      dsimp only
      by_cases hz : zt = zj
      · rw [hz, p_u_self]
      · rw [p_u_nk hz, e47]; exact e4 zt (by omega)
    · unfold B_X3_listen_2
      dsimp only
      rw [gp_44_4 hG, Option.bind_some, if_neg hc, Option.bind_some, k1, Option.bind_some, n_ck hib, n_let]
      dsimp only
      rw [q_s0_max e2.sr (by omega) hx hy, nI_clamp (by omega), nI_add, e3.e68]
  · rintro ⟨zi, J, K⟩ ⟨e1, e2, e3, e4⟩
    dsimp only at e1 e2 e3 e4
    subst e1
    have hc : nI (N.2 47).2 ≤ nI 6 := by rw [gn_47 hG]; decide
    refine ⟨(J, K), ⟨e2, e3, e4⟩, fun zrec => ?_⟩
    unfold B_X3_listen_2
    dsimp only
    rw [gp_44_4 hG, Option.bind_some, if_pos hc]
theorem c_isHeard (hG : GW N P) (hS : SR N P I 1 0) {zx zy : Nat} (hx : zx ≤ 20) (hy : zy ≤ 20) (h47 : ∀ zs, zs < 6 → I 47 zs = q_s0 (I 68) zs zx zy) {zs zn : Nat} (hs : zs < 6) (hn : 16 < zn) : f_X3_isHeard zn N I P 44 (nI zs) = some (bI (q_hd (I 68) zs zx zy)) := by
  have r1 : rg (I 68 1) 6 := hS.rs.1
  have hc : ¬ nI (N.2 47).2 ≤ nI zs := by rw [gn_47 hG]; exact nI_ge hs (by decide)
  have hib : p_ib N 47 (nI zs) = true := n_ib (gn_47 hG) hs (by decide)
  have e47 := h47 zs hs
  unfold f_X3_isHeard
  rw [if_neg (nI_pos (by omega)), gp_44_4 hG, Option.bind_some, if_neg hc, Option.bind_some, n_ck hib, nI_clamp (by omega)]
  unfold q_hd
  cases hst : q_st (I 68) (nI zs) with
  | false =>
    have hz : ¬ 0 < I 47 zs := by rw [e47]; unfold q_s0; rw [hst, if_neg (by decide)]; decide
    rw [if_neg hz]
    rfl
  | true =>
    have hlt := q_st_lt r1 (by omega) hst
    have e47b : I 47 zs = q_sgS (I 68) zs zx zy := by rw [e47]; unfold q_s0; rw [hst, if_pos rfl]
    have hsn := hS.sn hlt
    by_cases hz : 0 < I 47 zs
    · have hz2 : ¬ (q_sgS (I 68) zs zx zy).toInt64 ≤ 0 := by rw [← e47b]; exact n_posl.mp hz
      have ecol : I 7 (zs * 8 + 2) = I 68 (120 + 8 * zs + 2) := hsn.1 2 (by decide)
      have hloop := p_loopI (B := B_X3_isHeard_50 N I P (I 68 (120 + 8 * zs + 2)) 44 (nI zs)) (zJ := fun zj (zc : Int64 × Int32) => zc = (q_fold (q_nzf (I 68) zs zx zy) zj (I 68 13).toInt64, nI zj)) (zE := fun zt => zt = q_nz (I 68) zs zx zy) (zm := 6) (zn := zn) (by omega) ?_ ?_ ((I 68 13).toInt64, nI 0) rfl
      · obtain ⟨zt, k1, k2⟩ := hloop
        subst k2
        have e13 : f_X7_setting N I P 1 (nI 2) = some (I 68 13) := c_setting hG hS (by decide)
        have e14 : f_X7_setting N I P 1 (nI 3) = some (I 68 14) := c_setting hG hS (by decide)
        rw [if_pos hz, gp_44_0 hG, Option.bind_some, gp_1_2 hG, Option.bind_some, tb_get hS.tbs hlt (show 2 < 8 by decide), Option.bind_some, ecol, Option.bind_some, e13, Option.bind_some, k1, Option.bind_some, Option.bind_some, n_ck hib, Option.bind_some, e14, Option.bind_some, e47b, decide_eq_false hz2]
        by_cases hl : (q_sgS (I 68) zs zx zy).toInt64 * 100 < (I 68 14).toInt64 * q_nz (I 68) zs zx zy
        · rw [if_pos hl, decide_eq_true hl]; rfl
        · rw [if_neg hl, decide_eq_false hl]; rfl
      · rintro zj hj zc e1
        subst e1
        left
        have hcj : ¬ nI (N.2 47).2 ≤ nI zj := by rw [gn_47 hG]; exact nI_ge hj (by decide)
        have hibj : p_ib N 47 (nI zj) = true := n_ib (gn_47 hG) hj (by decide)
        refine ⟨(q_fold (q_nzf (I 68) zs zx zy) (zj + 1) (I 68 13).toInt64, nI (zj + 1)), rfl, fun zrec => ?_⟩
        show _ = zrec (q_nzf (I 68) zs zx zy zj (q_fold (q_nzf (I 68) zs zx zy) zj (I 68 13).toInt64), nI (zj + 1))
        generalize q_fold (q_nzf (I 68) zs zx zy) zj (I 68 13).toInt64 = za
        unfold B_X3_isHeard_50 q_nzf
        dsimp only
        rw [gp_44_4 hG, Option.bind_some, if_neg hcj]
        by_cases hjs : zj = zs
        · have hjs2 : nI zj = nI zs := by rw [hjs]
          rw [if_pos hjs2, if_pos hjs, Option.bind_some, nI_add]
        · have hjs2 : ¬ nI zj = nI zs := fun e => hjs ((nI_eq (by omega) (by omega)).mp e)
          rw [if_neg hjs2, if_neg hjs, gp_44_0 hG, Option.bind_some, gp_1_2 hG, Option.bind_some]
          by_cases hjn : zj < nv (I 68 1)
          · have ecj : I 7 (zj * 8 + 2) = I 68 (120 + 8 * zj + 2) := (hS.sn hjn).1 2 (by decide)
            rw [tb_get hS.tbs hjn (show 2 < 8 by decide), Option.bind_some, ecj]
            by_cases hcc : I 68 (120 + 8 * zj + 2) = I 68 (120 + 8 * zs + 2)
            · have e47j := h47 zj hj
              unfold q_s0 at e47j
              rw [if_pos hcc, if_pos hcc, Option.bind_some, n_ck hibj, n_let, Option.bind_some, nI_clamp (by omega), nI_add, e47j]
              cases q_st (I 68) (nI zj) with
              | true => rfl
              | false =>
                rw [if_neg (show ¬ false = true by decide), if_neg (show ¬ false = true by decide)]
                show zrec (za + 0, _) = _
                rw [Int64.add_zero]
            · rw [if_neg hcc, if_neg hcc, ite_self, Option.bind_some, nI_add]
          · have hcol := hsn.2.2.2.2.1
            have hst2 : q_st (I 68) (nI zj) = false := q_st_ge r1 (by omega) (by omega)
            have hne : ¬ (-1 : Int32) = I 68 (120 + 8 * zs + 2) := by
              intro e
              have h5 : rg (I 68 (120 + 8 * zs + 2)) 5 := hcol
              rw [← e] at h5
              have h6 := h5.1
              revert h6
              decide
            rw [tb_get_n hS.tbs (Or.inr (nI_le (by omega) (by omega))), Option.bind_some, if_neg hne, hst2, if_neg (show ¬ false = true by decide), Option.bind_some, nI_add]
      · rintro zc e1
        subst e1
        have hc6 : nI (N.2 47).2 ≤ nI 6 := by rw [gn_47 hG]; decide
        refine ⟨q_nz (I 68) zs zx zy, rfl, fun zrec => ?_⟩
        unfold B_X3_isHeard_50
        dsimp only
        rw [gp_44_4 hG, Option.bind_some, if_pos hc6]
        unfold q_nz
        rw [q_fold_to (zn := nv (I 68 1)) (zm := 6) r1.2 (fun zj a b za => by
          unfold q_nzf
          rw [q_st_ge r1 a (by omega), if_neg (show ¬ false = true by decide), ite_self])]
    · have hz2 : (q_sgS (I 68) zs zx zy).toInt64 ≤ 0 := by
        rw [← e47b]
        exact Classical.byContradiction (fun hh => hz (n_posl.mpr hh))
      rw [if_neg hz, decide_eq_true hz2]
      rfl
theorem m_isHeard (h : IV zk N P I) {zs zx zy : Nat} (hs : zs < nv (I 68 1)) (hst : q_st (I 68) (nI zs) = true) (hx : zx ≤ 20) (hy : zy ≤ 20) {zn : Nat} (hn : 200 < zn) : ∃ J K, f_X12_isHeard zn N I L P 67 (nI zs) (nI zx) (nI zy) = some (bI (q_hd (I 68) zs zx zy), J, K) ∧ IV zk N P J ∧ m_gF I J := by
  have hG := h.gw
  have r1 := h.n1
  have h6 := r1.2
  have hloop := p_loopI (B := B_X12_isHeard_13 zn N P 67 (nI zs) (nI zx) (nI zy)) (zJ := fun zj (zc : Int64 × Int32 × pI × pL) => zc.1 = q_fold (q_nzf (I 68) zs zx zy) zj (I 68 13).toInt64 ∧ zc.2.1 = nI zj ∧ IV zk N P zc.2.2.1 ∧ m_gF I zc.2.2.1) (zE := fun (zt : Int64 × pI × pL) => zt.1 = q_nz (I 68) zs zx zy ∧ IV zk N P zt.2.1 ∧ m_gF I zt.2.1) (zm := nv (I 68 1)) (zn := zn) (by omega) ?_ ?_ ((I 68 13).toInt64, nI 0, I, L) ⟨rfl, rfl, h, m_gF.rf⟩
  · obtain ⟨⟨zt, J, K⟩, k1, k2, k3, k4⟩ := hloop
    dsimp only at k2 k3 k4
    subst k2
    obtain ⟨J2, K2, j1, j2, j3⟩ := m_signal1 (L := K) k3 (zs := zs) (by rw [k4.e68]; exact hs) hx hy hn
    have hib : p_ib N 68 (nI 13) = true := ib_68 hG (by decide)
    have hib2 : p_ib N 68 (nI 14) = true := ib_68 hG (by decide)
    have e14 : J2 68 (nI 14).toNatClampNeg = I 68 14 := by rw [nI_clamp (by decide), (k4.tr j3).e68]
    unfold f_X12_isHeard
    rw [gp_67_0 hG, Option.bind_some, n_ck hib, n_let, nI_clamp (by decide), k1, Option.bind_some]
    dsimp only
    rw [k4.e68] at j1
    rw [j1, Option.bind_some, Option.bind_some, n_ck hib2]
    dsimp only
    unfold q_hd
    rw [hst]
    by_cases hz : (q_sgS (I 68) zs zx zy).toInt64 ≤ 0
    · refine ⟨J2, K2, ?_, j2, k4.tr j3⟩
      rw [if_pos hz, decide_eq_true hz]
      rfl
    · rw [if_neg hz, decide_eq_false hz]
      by_cases hl : (q_sgS (I 68) zs zx zy).toInt64 * 100 < (I 68 14).toInt64 * q_nz (I 68) zs zx zy
      · have hl2 : (q_sgS (I 68) zs zx zy).toInt64 * 100 < (J2 68 (nI 14).toNatClampNeg).toInt64 * q_nz (I 68) zs zx zy := by rw [e14]; exact hl
        refine ⟨J2, K2, ?_, j2, k4.tr j3⟩
        rw [if_pos hl2, decide_eq_true hl]; rfl
      · have hl2 : ¬ (q_sgS (I 68) zs zx zy).toInt64 * 100 < (J2 68 (nI 14).toNatClampNeg).toInt64 * q_nz (I 68) zs zx zy := by rw [e14]; exact hl
        refine ⟨J2, K2, ?_, j2, k4.tr j3⟩
        rw [if_neg hl2, decide_eq_false hl]; rfl
  · rintro zj hj ⟨za, zi, J, K⟩ ⟨e1, e2, e3, e4⟩
    dsimp only at e1 e2 e3 e4
    subst e2
    left
    have hib : p_ib N 68 (nI 1) = true := ib_68 hG (by decide)
    have hc : ¬ J 68 (nI 1).toNatClampNeg ≤ nI zj := by rw [nI_clamp (by decide), e4.e68, r1.1]; exact nI_ge hj (by omega)
    have hf : q_fold (q_nzf (I 68) zs zx zy) (zj + 1) (I 68 13).toInt64 = q_nzf (I 68) zs zx zy zj za := by rw [e1]; rfl
    have hB : ∀ zrec, B_X12_isHeard_13 zn N P 67 (nI zs) (nI zx) (nI zy) zrec (za, nI zj, J, K) = (Option.bind (α := Int64 × pI × pL) (if nI zj = nI zs then some (za, J, K) else Option.bind (f_X12_seesSender N J P 67 (nI zj)) fun q15 => (if q15 = 0 then some (za, J, K) else Option.bind (f_X12_senderOf N J P 67 (nI zj) (nI 2)) fun q17 => Option.bind (f_X12_senderOf N J P 67 (nI zs) (nI 2)) fun q19 => (if q17 = q19 then Option.bind (f_X12_signalOf zn N J K P 67 (nI zj) (nI zx) (nI zy)) fun q21 => p_let (za + (Int32.toInt64 q21.1)) fun v23 => some (v23, q21.2.1, q21.2.2) else some (za, J, K)))) fun t13 => zrec (t13.1, nI zj + nI 1, t13.2.1, t13.2.2)) := fun zrec => by
      unfold B_X12_isHeard_13
      dsimp only
      rw [gp_67_0 hG, Option.bind_some, n_ck hib, if_neg hc]
    unfold q_nzf at hf
    by_cases hjs : zj = zs
    · have hjs2 : nI zj = nI zs := by rw [hjs]
      rw [if_pos hjs] at hf
      refine ⟨(za, nI (zj + 1), J, K), ⟨hf.symm, rfl, e3, e4⟩, fun zrec => ?_⟩
      rw [hB, if_pos hjs2, Option.bind_some, nI_add]
    · have hjs2 : ¬ nI zj = nI zs := fun e => hjs ((nI_eq (by omega) (by omega)).mp e)
      rw [if_neg hjs] at hf
      have hse : f_X12_seesSender N J P 67 (nI zj) = some (bI (q_st (I 68) (nI zj))) := by rw [← e4.e68]; exact m_st hG e3.sr _
      cases hstj : q_st (I 68) (nI zj) with
      | false =>
        rw [hstj, if_neg (by decide)] at hf
        rw [hstj] at hse
        refine ⟨(za, nI (zj + 1), J, K), ⟨hf.symm, rfl, e3, e4⟩, fun zrec => ?_⟩
        rw [hB, if_neg hjs2, hse, Option.bind_some, bI_iff, Option.bind_some, nI_add]
      | true =>
        rw [hstj, if_pos rfl] at hf
        rw [hstj] at hse
        have c1 : f_X12_senderOf N J P 67 (nI zj) (nI 2) = some (I 68 (120 + 8 * zj + 2)) := by rw [m_senderOf hG (by omega) (by decide), e4.e68]
        have c2 : f_X12_senderOf N J P 67 (nI zs) (nI 2) = some (I 68 (120 + 8 * zs + 2)) := by rw [m_senderOf hG (by omega) (by decide), e4.e68]
        by_cases hcc : I 68 (120 + 8 * zj + 2) = I 68 (120 + 8 * zs + 2)
        · obtain ⟨J2, K2, j1, j2, j3⟩ := m_signal1 (L := K) e3 (zs := zj) (by rw [e4.e68]; exact hj) hx hy hn
          rw [if_pos hcc] at hf
          refine ⟨(za + (q_sgS (I 68) zj zx zy).toInt64, nI (zj + 1), J2, K2), ⟨hf.symm, rfl, j2, e4.tr j3⟩, fun zrec => ?_⟩
          rw [hB, if_neg hjs2, hse, Option.bind_some, bI_ift, c1, Option.bind_some, c2, Option.bind_some, if_pos hcc, j1, Option.bind_some, n_let, Option.bind_some, nI_add, e4.e68]
        · rw [if_neg hcc] at hf
          refine ⟨(za, nI (zj + 1), J, K), ⟨hf.symm, rfl, e3, e4⟩, fun zrec => ?_⟩
          rw [hB, if_neg hjs2, hse, Option.bind_some, bI_ift, c1, Option.bind_some, c2, Option.bind_some, if_neg hcc, Option.bind_some, nI_add]
  · rintro ⟨za, zi, J, K⟩ ⟨e1, e2, e3, e4⟩
    dsimp only at e1 e2 e3 e4
    subst e2
    have hib : p_ib N 68 (nI 1) = true := ib_68 hG (by decide)
    have hc : J 68 (nI 1).toNatClampNeg ≤ nI (nv (I 68 1)) := by rw [nI_clamp (by decide), e4.e68, ← r1.1]; exact Int32.le_refl _
    refine ⟨(za, J, K), ⟨e1, e3, e4⟩, fun zrec => ?_⟩
    unfold B_X12_isHeard_13
    dsimp only
    rw [gp_67_0 hG, Option.bind_some, n_ck hib, if_pos hc]
end Heard
