/-! what is heard, who best -/
def mX (I J : pI) : Prop := ∀ zq, (zq < 67 ∨ zq = 68 ∨ zq = 69 ∨ 85 < zq) → J zq = I zq
theorem mX.rf {I : pI} : mX I I := fun _ _ => rfl
theorem mX.tr {I J K : pI} (h1 : mX I J) (h2 : mX J K) : mX I K := fun zq a => (h2 zq a).trans (h1 zq a)
theorem mX.e68 {I J : pI} (h : mX I J) : J 68 = I 68 := h 68 (by decide)
theorem m_gF.x {I J : pI} (h1 : m_gF I J) : mX I J := fun zq a => h1.1 zq (by omega) (by omega) (by omega)
def mK (zk : Nat) (N : pN) (P : pR) (I J : pI) : Prop := IV zk N P J ∧ mX I J
def cX (I J : pI) : Prop := ∀ zq, zq ≠ 21 → zq ≠ 29 → zq ≠ 30 → zq ≠ 31 → (zq < 44 ∨ 54 < zq) → J zq = I zq
theorem cX.rf {I : pI} : cX I I := fun _ _ _ _ _ _ => rfl
theorem cX.tr {I J K : pI} (h1 : cX I J) (h2 : cX J K) : cX I K := fun zq a b c d e => (h2 zq a b c d e).trans (h1 zq a b c d e)
theorem cX.e68 {I J : pI} (h : cX I J) : J 68 = I 68 := h 68 (by decide) (by decide) (by decide) (by decide) (by decide)
theorem c_gF.x {I J : pI} (h1 : c_gF I J) : cX I J := fun zq a b c d e => h1 zq a b c d (by omega) (by omega) (by omega)
theorem c_hF.x {I J : pI} (h1 : c_hF I J) : cX I J := fun zq a b c d e => h1 zq a b c d (by omega) (by omega) (by omega) (by omega)
def cK (zk : Nat) (N : pN) (P : pR) (I J : pI) : Prop := IV zk N P J ∧ cX I J
def q_hbf (A : Nat → Int32) (x y k : Nat) (acc : Int32) : Int32 := acc ||| (if q_hd A k x y = true then nI 1 <<< (nI k &&& 31) else nI 0)
def q_hb (A : Nat → Int32) (x y : Nat) : Int32 := q_fold (q_hbf A x y) (nv (A 1)) (nI 0)
def q_bsf (A : Nat → Int32) (x y k : Nat) (best : Int32) : Int32 := if q_hd A k x y = true then (if best < 0 then nI k else if q_sgS A k x y ≤ q_sgS A (nv best) x y then best else nI k) else best
def q_bs (A : Nat → Int32) (x y : Nat) : Int32 := q_fold (q_bsf A x y) (nv (A 1)) (-1)
theorem q_hd_st {A : Nat → Int32} {zs zx zy : Nat} (h : q_hd A zs zx zy = true) : q_st A (nI zs) = true := by
  unfold q_hd at h
  rw [Bool.and_eq_true] at h
  exact h.1
theorem q_hd_pos {A : Nat → Int32} {zs zx zy : Nat} (h : q_hd A zs zx zy = true) : 0 < q_sgS A zs zx zy := by
  unfold q_hd at h
  rw [Bool.and_eq_true, Bool.and_eq_true, Bool.not_eq_true', decide_eq_false_iff_not] at h
  exact n_posl.mpr h.2.1
theorem q_bs_i {A : Nat → Int32} {zx zy : Nat} : ∀ zm, zm < 2 ^ 31 → (q_fold (q_bsf A zx zy) zm (-1) = -1 ∧ ∀ zj, zj < zm → q_hd A zj zx zy = false) ∨ ∃ zj, zj < zm ∧ q_fold (q_bsf A zx zy) zm (-1) = nI zj ∧ q_hd A zj zx zy = true := by
  intro zm
  induction zm with
  | zero => intro _; exact Or.inl ⟨rfl, fun zj hj => absurd hj (Nat.not_lt_zero zj)⟩
  | succ zm ih =>
    intro hm
    show (q_bsf A zx zy zm (q_fold (q_bsf A zx zy) zm (-1)) = -1 ∧ _) ∨ ∃ zj, zj < zm + 1 ∧ q_bsf A zx zy zm (q_fold (q_bsf A zx zy) zm (-1)) = nI zj ∧ _
    have ih := ih (by omega)
    generalize q_fold (q_bsf A zx zy) zm (-1) = zb at ih
    unfold q_bsf
    cases hh : q_hd A zm zx zy with
    | false =>
      rw [if_neg (by decide)]
      rcases ih with ⟨e, h⟩ | ⟨zj, h1, h2, h3⟩
      · refine Or.inl ⟨e, fun zj hj => ?_⟩
        by_cases hz : zj = zm
        · rw [hz]; exact hh
        · exact h zj (by omega)
      · exact Or.inr ⟨zj, by omega, h2, h3⟩
    | true =>
      rw [if_pos rfl]
      rcases ih with ⟨e, h⟩ | ⟨zj, h1, h2, h3⟩
      · have e0 : zb < 0 := by rw [e]; decide
        rw [if_pos e0]
        exact Or.inr ⟨zm, by omega, rfl, hh⟩
      · have e0 : ¬ zb < 0 := by rw [h2]; exact nI_pos (by omega)
        rw [if_neg e0]
        split
        · exact Or.inr ⟨zj, by omega, h2, h3⟩
        · exact Or.inr ⟨zm, by omega, rfl, hh⟩
section Best
variable {N : pN} {P : pR} {I J : pI} {L : pL} {zk : Nat}
theorem mK.rf (h : IV zk N P I) : mK zk N P I I := ⟨h, mX.rf⟩
theorem cK.rf (h : IV zk N P I) : cK zk N P I I := ⟨h, cX.rf⟩
theorem mK.n1 (h : mK zk N P I J) : rg (I 68 1) 6 := by rw [← h.2.e68]; exact h.1.n1
theorem cK.n1 (h : cK zk N P I J) : rg (I 68 1) 6 := by rw [← h.2.e68]; exact h.1.n1
theorem mK.sr (h : mK zk N P I J) : SR N P J 1 0 := h.1.sr
theorem cK.sr (h : cK zk N P I J) : SR N P J 1 0 := h.1.sr
theorem mK.gw (h : mK zk N P I J) : GW N P := h.1.gw
theorem cK.gw (h : cK zk N P I J) : GW N P := h.1.gw
theorem mK.sees (h : mK zk N P I J) (x : Int32) : f_X12_seesSender N J P 67 x = some (bI (q_st (I 68) x)) := by
  rw [m_st h.gw h.sr, h.2.e68]
theorem cK.stands (h : cK zk N P I J) (x : Int32) : f_X7_senderStands N J P 1 x = some (bI (q_st (I 68) x)) := by
  rw [c_st h.gw h.sr, h.2.e68]
theorem mK.sndr (h : mK zk N P I J) {zs zj : Nat} (hs : zs < 6) (hj : zj < 8) : f_X12_senderOf N J P 67 (nI zs) (nI zj) = some (I 68 (120 + 8 * zs + zj)) := by
  rw [m_senderOf h.gw hs hj, h.2.e68]
theorem mK.sg (h : mK zk N P I J) {zs zx zy : Nat} (hs : zs < nv (I 68 1)) (hx : zx ≤ 20) (hy : zy ≤ 20) {zn : Nat} (hn : 200 < zn) : ∃ J2 K2, f_X12_signalOf zn N J L P 67 (nI zs) (nI zx) (nI zy) = some (q_sgS (I 68) zs zx zy, J2, K2) ∧ mK zk N P I J2 ∧ m_gF J J2 := by
  obtain ⟨J2, K2, j1, j2, j3⟩ := m_signal1 (L := L) h.1 (zs := zs) (by rw [h.2.e68]; exact hs) hx hy hn
  rw [h.2.e68] at j1
  exact ⟨J2, K2, j1, ⟨j2, h.2.tr j3.x⟩, j3⟩
theorem mK.hd (h : mK zk N P I J) {zs zx zy : Nat} (hst : q_st (I 68) (nI zs) = true) (hs : zs < 100) (hx : zx ≤ 20) (hy : zy ≤ 20) {zn : Nat} (hn : 200 < zn) : ∃ J2 K2, f_X12_isHeard zn N J L P 67 (nI zs) (nI zx) (nI zy) = some (bI (q_hd (I 68) zs zx zy), J2, K2) ∧ mK zk N P I J2 ∧ m_gF J J2 := by
  obtain ⟨J2, K2, j1, j2, j3⟩ := m_isHeard (L := L) h.1 (zs := zs) (by rw [h.2.e68]; exact q_st_lt h.n1 (by omega) hst) (by rw [h.2.e68]; exact hst) hx hy hn
  rw [h.2.e68] at j1
  exact ⟨J2, K2, j1, ⟨j2, h.2.tr j3.x⟩, j3⟩
theorem cK.sg (h : cK zk N P I J) {zn : Nat} (hn : 16 < zn) (x1 x2 x3 : Int32) : ∃ J2 K2, f_X3_signalAt zn N J L P 44 x1 x2 x3 = some (q_sgv (I 68) x1 x2 x3, J2, K2) ∧ cK zk N P I J2 ∧ c_gF J J2 := by
  obtain ⟨J2, K2, j1, j2, j3⟩ := c_signal (L := L) h.1 hn x1 x2 x3
  rw [h.2.e68] at j1
  exact ⟨J2, K2, j1, ⟨j2, h.2.tr j3.x⟩, j3⟩
theorem c_heardBits (hG : GW N P) (hS : SR N P I 1 0) {zx zy : Nat} (hx : zx ≤ 20) (hy : zy ≤ 20) (h47 : ∀ zs, zs < 6 → I 47 zs = q_s0 (I 68) zs zx zy) {zn : Nat} (hn : 16 < zn) : f_X3_heardBits zn N I P 44 = some (q_hb (I 68) zx zy) := by
  have r1 : rg (I 68 1) 6 := hS.rs.1
  have hloop := p_loopI (B := B_X3_heardBits_4 zn N I P 44) (zJ := fun zj (zc : Int32 × Int32) => zc = (q_fold (q_hbf (I 68) zx zy) zj (nI 0), nI zj)) (zE := fun zt => zt = q_hb (I 68) zx zy) (zm := 6) (zn := zn) (by omega) ?_ ?_ (nI 0, nI 0) rfl
  · obtain ⟨zt, k1, k2⟩ := hloop
    unfold f_X3_heardBits
    rw [k1, Option.bind_some, k2]
  · rintro zj hj _ rfl
    left
    have hc : ¬ nI (N.2 47).2 ≤ nI zj := by rw [gn_47 hG]; exact nI_ge hj (by decide)
    refine ⟨(q_fold (q_hbf (I 68) zx zy) (zj + 1) (nI 0), nI (zj + 1)), rfl, fun zrec => ?_⟩
    show _ = zrec (q_hbf (I 68) zx zy zj (q_fold (q_hbf (I 68) zx zy) zj (nI 0)), nI (zj + 1))
    generalize q_fold (q_hbf (I 68) zx zy) zj (nI 0) = za
    unfold B_X3_heardBits_4 q_hbf
    simp only [gp_44_4 hG, Option.bind_some, if_neg hc, c_isHeard hG hS hx hy h47 hj hn, n_let, nI_add, bI_if]
  · rintro _ rfl
    have hc6 : nI (N.2 47).2 ≤ nI 6 := by rw [gn_47 hG]; decide
    refine ⟨q_hb (I 68) zx zy, rfl, fun zrec => ?_⟩
    unfold B_X3_heardBits_4
    simp only [gp_44_4 hG, Option.bind_some, if_pos hc6]
    unfold q_hb
    rw [q_fold_to (zn := nv (I 68 1)) (zm := 6) r1.2 (fun zj a b za => by
      unfold q_hbf q_hd
      rw [q_st_ge r1 a (by omega), Bool.false_and, if_neg (by decide)]
      exact Int32.or_zero)]
theorem m_heard (h : IV zk N P I) {zx zy : Nat} (hx : zx ≤ 20) (hy : zy ≤ 20) {zn : Nat} (hn : 200 < zn) : ∃ J K, p_it (B_X12_heard_15 zn N P 67 (nI zx) (nI zy)) zn (nI 0, nI 0, I, L) = some (q_hb (I 68) zx zy, J, K) ∧ mK zk N P I J := by
  have hG := h.gw
  have r1 := h.n1
  have h6 := r1.2
  have hib : p_ib N 68 (nI 1) = true := ib_68 hG (by decide)
  have hloop := p_loopI (B := B_X12_heard_15 zn N P 67 (nI zx) (nI zy)) (zJ := fun zj (zc : Int32 × Int32 × pI × pL) => zc.1 = q_fold (q_hbf (I 68) zx zy) zj (nI 0) ∧ zc.2.1 = nI zj ∧ mK zk N P I zc.2.2.1) (zE := fun (zt : Int32 × pI × pL) => zt.1 = q_hb (I 68) zx zy ∧ mK zk N P I zt.2.1) (zm := nv (I 68 1)) (zn := zn) (by omega) ?_ ?_ (nI 0, nI 0, I, L) ⟨rfl, rfl, mK.rf h⟩
  · obtain ⟨⟨zt, J, K⟩, k1, k2, k3⟩ := hloop
    dsimp only at k2 k3
    subst k2
    exact ⟨J, K, k1, k3⟩
  · rintro zj hj ⟨za, zi, J, K⟩ ⟨e1, e2, e3⟩
    dsimp only at e1 e2 e3
    subst e2
    left
    have hc : ¬ J 68 (nI 1).toNatClampNeg ≤ nI zj := by rw [nI_clamp (by decide), e3.2.e68, r1.1]; exact nI_ge hj (by omega)
    have hf : q_fold (q_hbf (I 68) zx zy) (zj + 1) (nI 0) = q_hbf (I 68) zx zy zj za := by rw [e1]; rfl
    unfold q_hbf at hf
    cases hst : q_st (I 68) (nI zj) with
    | false =>
      have hh : q_hd (I 68) zj zx zy = false := by unfold q_hd; rw [hst]; rfl
      rw [hh, if_neg (by decide)] at hf
      refine ⟨(za ||| nI 0, nI (zj + 1), J, K), ⟨hf.symm, rfl, e3⟩, fun zrec => ?_⟩
      unfold B_X12_heard_15
      simp only [gp_67_0 hG, Option.bind_some, n_ck hib, if_neg hc, e3.sees, hst, bI_iff, nI_add]
    | true =>
      obtain ⟨J2, K2, j1, j2, j3⟩ := e3.hd (L := K) hst (by omega) hx hy hn
      cases hh : q_hd (I 68) zj zx zy with
      | false =>
        rw [hh, if_neg (by decide)] at hf
        rw [hh] at j1
        refine ⟨(za ||| nI 0, nI (zj + 1), J2, K2), ⟨hf.symm, rfl, j2⟩, fun zrec => ?_⟩
        unfold B_X12_heard_15
        simp only [gp_67_0 hG, Option.bind_some, n_ck hib, if_neg hc, e3.sees, hst, bI_iff, bI_ift, nI_add, j1]
      | true =>
        rw [hh, if_pos rfl] at hf
        rw [hh] at j1
        refine ⟨(za ||| (nI 1 <<< (nI zj &&& 31)), nI (zj + 1), J2, K2), ⟨hf.symm, rfl, j2⟩, fun zrec => ?_⟩
        unfold B_X12_heard_15
        simp only [gp_67_0 hG, Option.bind_some, n_ck hib, if_neg hc, e3.sees, hst, bI_iff, bI_ift, nI_add, j1]
  · rintro ⟨za, zi, J, K⟩ ⟨e1, e2, e3⟩
    dsimp only at e1 e2 e3
    subst e2
    have hc : J 68 (nI 1).toNatClampNeg ≤ nI (nv (I 68 1)) := by rw [nI_clamp (by decide), e3.2.e68, ← r1.1]; exact Int32.le_refl _
    refine ⟨(za, J, K), ⟨e1, e3⟩, fun zrec => ?_⟩
    unfold B_X12_heard_15
    simp only [gp_67_0 hG, Option.bind_some, n_ck hib, if_pos hc]
def q_mo (A : Nat → Int32) (x y : Nat) (b : Int32) : Int32 := if b < 0 then nI 0 else q_sgS A (nv b) x y
theorem c_bestHeard (hG : GW N P) (hS : SR N P I 1 0) {zx zy : Nat} (hx : zx ≤ 20) (hy : zy ≤ 20) (h47 : ∀ zs, zs < 6 → I 47 zs = q_s0 (I 68) zs zx zy) {zn : Nat} (hn : 16 < zn) : f_X3_bestHeard zn N I P 44 = some (q_bs (I 68) zx zy) := by
  have r1 : rg (I 68 1) 6 := hS.rs.1
  have hloop := p_loopI (B := B_X3_bestHeard_6 zn N I P 44) (zJ := fun zj (zc : Int32 × Int32 × Int32) => zc = (q_fold (q_bsf (I 68) zx zy) zj (-1), q_mo (I 68) zx zy (q_fold (q_bsf (I 68) zx zy) zj (-1)), nI zj)) (zE := fun zt => zt = q_bs (I 68) zx zy) (zm := 6) (zn := zn) (by omega) ?_ ?_ (-1, nI 0, nI 0) rfl
  · obtain ⟨zt, k1, k2⟩ := hloop
    unfold f_X3_bestHeard
    rw [k1, Option.bind_some, k2]
  · rintro zj hj _ rfl
    left
    have hc : ¬ nI (N.2 47).2 ≤ nI zj := by rw [gn_47 hG]; exact nI_ge hj (by decide)
    have hib : p_ib N 47 (nI zj) = true := n_ib (gn_47 hG) hj (by decide)
    have ecl : (nI zj).toNatClampNeg = zj := nI_clamp (by omega)
    refine ⟨_, rfl, fun zrec => ?_⟩
    show _ = zrec (q_bsf (I 68) zx zy zj (q_fold (q_bsf (I 68) zx zy) zj (-1)), q_mo (I 68) zx zy (q_bsf (I 68) zx zy zj (q_fold (q_bsf (I 68) zx zy) zj (-1))), nI (zj + 1))
    generalize q_fold (q_bsf (I 68) zx zy) zj (-1) = zb
    unfold B_X3_bestHeard_6 q_bsf
    simp only [gp_44_4 hG, Option.bind_some, if_neg hc, c_isHeard hG hS hx hy h47 hj hn, n_let, nI_add, n_ck hib, ecl]
    cases hh : q_hd (I 68) zj zx zy with
    | false =>
      simp only [bI_iff, ite_self, Option.bind_some, Bool.false_eq_true, if_false]
    | true =>
      have hp := q_hd_pos hh
      have e47 : I 47 zj = q_sgS (I 68) zj zx zy := by
        rw [h47 zj hj]
        unfold q_s0
        rw [if_pos (q_hd_st hh)]
      rw [e47]
      by_cases hb : zb < 0
      · have hz : ¬ q_sgS (I 68) zj zx zy ≤ nI 0 := fun h => by
          have h1 := Int32.lt_iff_toInt_lt.mp hp
          have h2 := Int32.le_iff_toInt_le.mp h
          have h3 : (nI 0).toInt = (0 : Int32).toInt := rfl
          omega
        have hm : q_mo (I 68) zx zy zb = nI 0 := if_pos hb
        have hm2 : q_mo (I 68) zx zy (nI zj) = q_sgS (I 68) zj zx zy := by
          unfold q_mo
          rw [if_neg (nI_pos (by omega)), nv_nI (by omega)]
        simp only [hm, if_neg hz, bI_ift, Option.bind_some, if_pos hb, hm2, if_true]
      · have hm : q_mo (I 68) zx zy zb = q_sgS (I 68) (nv zb) zx zy := if_neg hb
        have hm2 : q_mo (I 68) zx zy (nI zj) = q_sgS (I 68) zj zx zy := by
          unfold q_mo
          rw [if_neg (nI_pos (by omega)), nv_nI (by omega)]
        by_cases hle : q_sgS (I 68) zj zx zy ≤ q_sgS (I 68) (nv zb) zx zy
        · simp only [hm, if_pos hle, bI_ift, Option.bind_some, if_neg hb, if_true]
        · simp only [hm, if_neg hle, bI_ift, Option.bind_some, if_neg hb, hm2, if_true]
  · rintro _ rfl
    have hc6 : nI (N.2 47).2 ≤ nI 6 := by rw [gn_47 hG]; decide
    refine ⟨q_bs (I 68) zx zy, rfl, fun zrec => ?_⟩
    unfold B_X3_bestHeard_6
    simp only [gp_44_4 hG, Option.bind_some, if_pos hc6]
    unfold q_bs
    rw [q_fold_to (zn := nv (I 68 1)) (zm := 6) r1.2 (fun zj a b za => by
      unfold q_bsf q_hd
      rw [q_st_ge r1 a (by omega), Bool.false_and, if_neg (by decide)])]
theorem m_bestAt (h : mK zk N P I J) {zx zy : Nat} (hx : zx ≤ 20) (hy : zy ≤ 20) {zn : Nat} (hn : 200 < zn) : ∃ J2 K2, f_X12_bestAt zn N J L P 67 (nI zx) (nI zy) = some (q_bs (I 68) zx zy, J2, K2) ∧ mK zk N P I J2 ∧ m_gF J J2 := by
  have hG := h.gw
  have r1 := h.n1
  have h6 := r1.2
  have hib : p_ib N 68 (nI 1) = true := ib_68 hG (by decide)
  have hloop := p_loopI (B := B_X12_bestAt_5 zn N P 67 (nI zx) (nI zy)) (zJ := fun zj (zc : Int32 × Int32 × pI × pL) => zc.1 = q_fold (q_bsf (I 68) zx zy) zj (-1) ∧ zc.2.1 = nI zj ∧ mK zk N P I zc.2.2.1 ∧ m_gF J zc.2.2.1) (zE := fun (zt : Int32 × pI × pL) => zt.1 = q_bs (I 68) zx zy ∧ mK zk N P I zt.2.1 ∧ m_gF J zt.2.1) (zm := nv (I 68 1)) (zn := zn) (by omega) ?_ ?_ (-1, nI 0, J, L) ⟨rfl, rfl, h, m_gF.rf⟩
  · obtain ⟨⟨zt, J2, K2⟩, k1, k2, k3⟩ := hloop
    dsimp only at k2 k3
    subst k2
    refine ⟨J2, K2, ?_, k3⟩
    unfold f_X12_bestAt
    rw [k1, Option.bind_some]
  · rintro zj hj ⟨za, zi, J, K⟩ ⟨e1, e2, e3, e4⟩
    dsimp only at e1 e2 e3 e4
    subst e2
    left
    have hc : ¬ J 68 (nI 1).toNatClampNeg ≤ nI zj := by rw [nI_clamp (by decide), e3.2.e68, r1.1]; exact nI_ge hj (by omega)
    have hf : q_fold (q_bsf (I 68) zx zy) (zj + 1) (-1) = q_bsf (I 68) zx zy zj za := by rw [e1]; rfl
    have hi := q_bs_i (A := I 68) (zx := zx) (zy := zy) zj (by omega)
    rw [← e1] at hi
    unfold q_bsf at hf
    cases hst : q_st (I 68) (nI zj) with
    | false =>
      have hh : q_hd (I 68) zj zx zy = false := by unfold q_hd; rw [hst]; rfl
      rw [hh, if_neg (by decide)] at hf
      refine ⟨(za, nI (zj + 1), J, K), ⟨hf.symm, rfl, e3, e4⟩, fun zrec => ?_⟩
      unfold B_X12_bestAt_5
      simp only [gp_67_0 hG, Option.bind_some, n_ck hib, if_neg hc, e3.sees, hst, bI_iff, nI_add]
    | true =>
      obtain ⟨J2, K2, j1, j2, j3⟩ := e3.hd (L := K) hst (by omega) hx hy hn
      cases hh : q_hd (I 68) zj zx zy with
      | false =>
        rw [hh, if_neg (by decide)] at hf
        rw [hh] at j1
        refine ⟨(za, nI (zj + 1), J2, K2), ⟨hf.symm, rfl, j2, e4.tr j3⟩, fun zrec => ?_⟩
        unfold B_X12_bestAt_5
        simp only [gp_67_0 hG, Option.bind_some, n_ck hib, if_neg hc, e3.sees, hst, bI_iff, bI_ift, nI_add, j1]
      | true =>
        rw [hh, if_pos rfl] at hf
        rw [hh] at j1
        rcases hi with ⟨e, _⟩ | ⟨zb, b1, b2, b3⟩
        · have hb : za < 0 := by rw [e]; decide
          rw [if_pos hb] at hf
          refine ⟨(nI zj, nI (zj + 1), J2, K2), ⟨hf.symm, rfl, j2, e4.tr j3⟩, fun zrec => ?_⟩
          unfold B_X12_bestAt_5
          simp only [gp_67_0 hG, Option.bind_some, n_ck hib, if_neg hc, e3.sees, hst, bI_iff, bI_ift, nI_add, j1, if_pos hb]
        · have hb : ¬ za < 0 := by rw [b2]; exact nI_pos (by omega)
          obtain ⟨J3, K3, t1, t2, t3⟩ := j2.sg (L := K2) hj hx hy hn
          obtain ⟨J4, K4, u1, u2, u3⟩ := t2.sg (L := K3) (zs := zb) (by omega) hx hy hn
          rw [if_neg hb, b2, nv_nI (by omega)] at hf
          by_cases hle : q_sgS (I 68) zj zx zy ≤ q_sgS (I 68) zb zx zy
          · rw [if_pos hle] at hf
            refine ⟨(nI zb, nI (zj + 1), J4, K4), ⟨hf.symm, rfl, u2, e4.tr (j3.tr (t3.tr u3))⟩, fun zrec => ?_⟩
            unfold B_X12_bestAt_5
            simp only [gp_67_0 hG, Option.bind_some, n_ck hib, if_neg hc, e3.sees, hst, bI_iff, bI_ift, nI_add, j1, if_neg hb, t1]
            simp only [b2, u1, Option.bind_some, if_pos hle]
          · rw [if_neg hle] at hf
            refine ⟨(nI zj, nI (zj + 1), J4, K4), ⟨hf.symm, rfl, u2, e4.tr (j3.tr (t3.tr u3))⟩, fun zrec => ?_⟩
            unfold B_X12_bestAt_5
            simp only [gp_67_0 hG, Option.bind_some, n_ck hib, if_neg hc, e3.sees, hst, bI_iff, bI_ift, nI_add, j1, if_neg hb, t1]
            simp only [b2, u1, Option.bind_some, if_neg hle]
  · rintro ⟨za, zi, J, K⟩ ⟨e1, e2, e3, e4⟩
    dsimp only at e1 e2 e3 e4
    subst e2
    have hc : J 68 (nI 1).toNatClampNeg ≤ nI (nv (I 68 1)) := by rw [nI_clamp (by decide), e3.2.e68, ← r1.1]; exact Int32.le_refl _
    refine ⟨(za, J, K), ⟨e1, e3, e4⟩, fun zrec => ?_⟩
    unfold B_X12_bestAt_5
    simp only [gp_67_0 hG, Option.bind_some, n_ck hib, if_pos hc]
end Best
theorem sp_heard {n zk : Nat} (hn : 200 < n) : Sp_heard n (Ivv zk) (Ivv (zk + 1)) := by
  intro N I L P h x1 x2
  have h : IV zk N P I := h
  have hG := h.gw
  rcases Bool.eq_false_or_eq_true (q_pt x1 x2) with hp | hp
  · obtain ⟨zx, zy, hx, hy, e2, e3⟩ := q_ptx hp
    obtain ⟨J, K, k1, k2, k3, k4⟩ := c_listen (L := L) h hx hy (zn := n) (by omega)
    obtain ⟨J2, K2, m1, m2⟩ := m_heard (L := K) k2 hx hy hn
    refine ⟨(q_hb (I 68) zx zy, J, K), (q_hb (J 68) zx zy, J2, K2), ?_, ?_, ?_, m2.1.up⟩
    · unfold f_X11_heard
      rw [c_point, Option.bind_some, hp, bI_ift, gp_0_3 hG, Option.bind_some, e2, e3, k1, Option.bind_some, Option.bind_some]
      dsimp only
      rw [c_heardBits hG k2.sr hx hy (by rw [k3.e68]; exact k4) (by omega), Option.bind_some, k3.e68]
    · unfold f_X12_heard
      rw [m_point, Option.bind_some, hp, bI_ift, e2, e3, m1, Option.bind_some]
    · rw [k3.e68]
  · refine ⟨(-1, I, L), (-1, I, L), ?_, ?_, rfl, h.up⟩
    · unfold f_X11_heard
      rw [c_point, Option.bind_some, hp, bI_iff]
    · unfold f_X12_heard
      rw [m_point, Option.bind_some, hp, bI_iff]
theorem sp_best {n zk : Nat} (hn : 200 < n) : Sp_best n (Ivv zk) (Ivv (zk + 1)) := by
  intro N I L P h x1 x2
  have h : IV zk N P I := h
  have hG := h.gw
  rcases Bool.eq_false_or_eq_true (q_pt x1 x2) with hp | hp
  · obtain ⟨zx, zy, hx, hy, e2, e3⟩ := q_ptx hp
    obtain ⟨J, K, k1, k2, k3, k4⟩ := c_listen (L := L) h hx hy (zn := n) (by omega)
    obtain ⟨J2, K2, m1, m2, _⟩ := m_bestAt (L := K) (mK.rf k2) hx hy hn
    refine ⟨(q_bs (I 68) zx zy, J, K), (q_bs (J 68) zx zy, J2, K2), ?_, ?_, ?_, m2.1.up⟩
    · unfold f_X11_best
      rw [c_point, Option.bind_some, hp, bI_ift, gp_0_3 hG, Option.bind_some, e2, e3, k1, Option.bind_some, Option.bind_some]
      dsimp only
      rw [c_bestHeard hG k2.sr hx hy (by rw [k3.e68]; exact k4) (by omega), Option.bind_some, k3.e68]
    · unfold f_X12_best
      rw [m_point, Option.bind_some, hp, bI_ift, e2, e3, m1, Option.bind_some]
    · rw [k3.e68]
  · refine ⟨(-1, I, L), (-1, I, L), ?_, ?_, rfl, h.up⟩
    · unfold f_X11_best
      rw [c_point, Option.bind_some, hp, bI_iff]
    · unfold f_X12_best
      rw [m_point, Option.bind_some, hp, bI_iff]
