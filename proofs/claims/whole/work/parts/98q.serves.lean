/-! what a site gives at a need -/
def q_of (A : Nat → Int32) (k : Nat) (x : Int32) : Bool := !decide (x < 0) && !decide (A k ≤ x)
def q_sgIv (A : Nat → Int32) (x1 x2 : Int32) : Int32 := if (q_of A 2 x1 && q_of A 3 x2) = true then q_sgI A (nv x1) (nv x2) else -1
theorem q_of_x {A : Nat → Int32} {k zh : Nat} (h1 : rg (A k) zh) (hh : zh < 100000) (x : Int32) : (q_of A k x = false ∧ (x < 0 ∨ nI (nv (A k)) ≤ x)) ∨ ∃ zs, zs < nv (A k) ∧ x = nI zs ∧ q_of A k x = true := by
  have h2 := h1.2
  rcases pk_ix x (n := nv (A k)) (by omega) with g | g | ⟨zs, g, e⟩
  · exact Or.inl ⟨q_of_in (Or.inl g), Or.inl g⟩
  · exact Or.inl ⟨q_of_in (Or.inr (by rw [h1.1]; exact g)), Or.inr g⟩
  · exact Or.inr ⟨zs, g, e, by rw [e]; exact q_of_ok (nI_pos (by omega)) (by rw [h1.1]; exact nI_ge g (by omega))⟩
section Serves
variable {N : pN} {P : pR} {I J : pI} {L : pL} {zk : Nat}
theorem c_search2 (h : IV zk N P I) {zi zj : Nat} (hi : zi < nv (I 68 2)) (hj : zj < nv (I 68 3)) {zn : Nat} (hn : 16 < zn) : ∃ J K, f_X2_search zn N I L P 21 8 (nI zi) (nI 2) (I 68 (202 + 2 * zj + 0)) (I 68 (202 + 2 * zj + 1)) = some (q_sgI (I 68) zi zj, J, K) ∧ q_FR N P J (q_allC (I 68) (I 68 (170 + 4 * zi + 0)) (I 68 (170 + 4 * zi + 1)) (I 68 (170 + 4 * zi + 2)) (I 68 (202 + 2 * zj + 0)) (I 68 (202 + 2 * zj + 1))) ∧ c_sF I J := by
  have hS := h.sr
  obtain ⟨b1, b2, b3, ⟨zr, b4⟩, b5⟩ := h.2.2.2.1
  have b2 := b2.resolve_left (fun g => by have := g.2; omega)
  have hc := hS.ri.2.2 zi hi
  have c1 : ∀ zj, zj < 4 → I 9 (zi * 4 + zj) = I 68 (170 + 4 * zi + zj) := hc.1
  have w0 : rg (I 68 (170 + 4 * zi + 0)) 20 := hc.2.1
  have w1 : rg (I 68 (170 + 4 * zi + 1)) 20 := hc.2.2.1
  have w2 : rg (I 68 (170 + 4 * zi + 2)) 9999 := hc.2.2.2.1
  have v0 : rg (I 68 (202 + 2 * zj + 0)) 20 := (hS.rn.2.2 zj hj 0 (by decide)).2
  have v1 : rg (I 68 (202 + 2 * zj + 1)) 20 := (hS.rn.2.2 zj hj 1 (by decide)).2
  have tb : TB N P I 8 9 8 4 (nv (I 68 2)) := hS.ri.2.1
  have hbd : rg (I 68 12) 100 := (hS.rg.2.1 1 (by decide)).2
  obtain ⟨J, K, k1, k2, k3, k4⟩ := c_search (L := L) h.gw hS.wfs hS.wfu w0 w1 v0 v1 w2 hbd b1 b2 b3 b4 (a1 := 8) (x2 := nI zi) (x3 := nI 2) (fun J hJ => by
    have tJ : TB N P J 8 9 8 4 (nv (I 68 2)) := tb.of (fun zi => by rw [hJ 8 (by decide) (by decide)])
    refine ⟨?_, ?_, ?_⟩
    · rw [tb_get tJ hi (show 2 < 4 by decide), hJ 9 (by decide) (by decide), c1 2 (by decide)]
    · rw [tb_get tJ hi (show 0 < 4 by decide), hJ 9 (by decide) (by decide), c1 0 (by decide)]
    · rw [tb_get tJ hi (show 1 < 4 by decide), hJ 9 (by decide) (by decide), c1 1 (by decide)]) hn
  exact ⟨J, K, by rw [k1, q_sig_C hS.wfs.1]; rfl, k2, k3⟩
theorem c_siteSig (h : IV zk N P I) {zn : Nat} (hn : 16 < zn) (x1 x2 : Int32) : ∃ J K, f_X3_siteSignal zn N I L P 44 x1 x2 = some (q_sgIv (I 68) x1 x2, J, K) ∧ IV zk N P J ∧ c_gF I J := by
  have hG := h.gw
  have tbi : TB N P I 8 9 8 4 (nv (I 68 2)) := h.sr.ri.2.1
  have tbn : TB N P I 10 11 8 2 (nv (I 68 3)) := h.sr.rn.2.1
  have h2 := h.n2.2
  have h3 := h.n3.2
  rcases q_of_x h.n2 (by decide) x1 with ⟨e1, g1⟩ | ⟨zi, hi, e1, g1⟩
  · refine ⟨I, L, ?_, h, c_gF.rf⟩
    unfold f_X3_siteSignal q_sgIv
    rw [e1, Bool.false_and]
    simp only [gp_44_0 hG, gp_1_3 hG, Option.bind_some, tb_has_n tbi g1, n_00, if_true, Bool.false_eq_true, if_false]
  · rcases q_of_x h.n3 (by decide) x2 with ⟨e2, g2⟩ | ⟨zj, hj, e2, g2⟩
    · refine ⟨I, L, ?_, h, c_gF.rf⟩
      unfold f_X3_siteSignal q_sgIv
      rw [e2, Bool.and_false, e1]
      simp only [gp_44_0 hG, gp_1_3 hG, gp_1_4 hG, Option.bind_some, tb_has tbi hi, tb_has_n tbn g2, n_00, n_10, if_true, Bool.false_eq_true, if_false]
    · have hv : q_sgIv (I 68) x1 x2 = q_sgI (I 68) zi zj := by
        unfold q_sgIv
        rw [g1, g2, Bool.and_self, if_pos rfl, e1, e2, nv_nI (zk := zi) (by omega), nv_nI (zk := zj) (by omega)]
      rw [hv, e1, e2]
      have hkey : f_X3_keyOf (nI 6) (nI 0) (nI 0) = some (nI 2646) := by decide
      have e3 : nI 2646 + nI zi * nI 8 + nI zj = nI (2646 + zi * 8 + zj) := by rw [pk_mul, nI_add, nI_add]
      have hk : 2646 + zi * 8 + zj < 2710 := by omega
      have hge : 2646 ≤ 2646 + zi * 8 + zj := by omega
      have hinj : ∀ ai aj, aj < 8 → 2646 + ai * 8 + aj = 2646 + zi * 8 + zj → ai = zi ∧ aj = zj := fun ai aj a b => by omega
      have hmem := h.2.2.2.2.1.2.2 zi zj hi hj
      have c0 : I 11 (zj * 2 + 0) = I 68 (202 + 2 * zj + 0) := (h.sr.rn.2.2 zj hj 0 (by decide)).1
      have c1 : I 11 (zj * 2 + 1) = I 68 (202 + 2 * zj + 1) := (h.sr.rn.2.2 zj hj 1 (by decide)).1
      generalize 2646 + zi * 8 + zj = zt at e3 hk hge hinj hmem
      have hib45 : p_ib N 45 (nI zt) = true := n_ib (gn_45 hG) (by omega) (by decide)
      have hib46 : p_ib N 46 (nI zt) = true := n_ib (gn_46 hG) (by omega) (by decide)
      have c45 : ¬ nI (N.2 45).2 ≤ nI zt := by rw [gn_45 hG]; exact nI_ge (by omega) (by decide)
      have c46 : nI zt < nI (N.2 46).2 := by rw [gn_46 hG]; exact nI_lt (by omega) (by decide)
      have kcl : (nI zt).toNatClampNeg = zt := nI_clamp (by omega)
      unfold f_X3_siteSignal
      simp only [gp_44_0 hG, gp_44_1 hG, gp_44_2 hG, gp_44_3 hG, gp_1_3 hG, gp_1_4 hG, Option.bind_some, tb_has tbi hi, tb_has tbn hj, n_10, if_false, hkey, e3, if_neg (nI_pos (show zt < 2 ^ 31 by omega)), if_neg c45, if_pos c46, n_ck hib46, kcl, tb_get tbn hj (show 0 < 2 by decide), tb_get tbn hj (show 1 < 2 by decide), c0, c1]
      by_cases hst : I 46 zt = I 44 6
      · simp only [if_pos hst, Option.bind_some, n_ck hib45]
        exact ⟨I, L, by rw [← hmem hst], h, c_gF.rf⟩
      · obtain ⟨J, K, k1, k2, k3⟩ := c_search2 (L := L) h hi hj hn
        have hm := h.memo k3 k2.1 (zt := zt) (by omega) (zv := q_sgI (I 68) zi zj) (fun as ax ay a b c d => by
          have h6 := h.n1.2
          omega) (fun ai aj a b c => by
          obtain ⟨e4, e5⟩ := hinj ai aj (by omega) c
          rw [e4, e5])
        refine ⟨_, K, ?_, hm.1, hm.2⟩
        simp only [if_neg hst, k1, Option.bind_some, n_ck hib45, n_let]
        rw [p_u_ne (a := 44) (x := 45) (by decide), p_u_ne (a := 46) (x := 45) (by decide), p_u_self]
theorem cK.ss (h : cK zk N P I J) {zn : Nat} (hn : 16 < zn) (x1 x2 : Int32) : ∃ J2 K2, f_X3_siteSignal zn N J L P 44 x1 x2 = some (q_sgIv (I 68) x1 x2, J2, K2) ∧ cK zk N P I J2 ∧ c_gF J J2 := by
  obtain ⟨J2, K2, j1, j2, j3⟩ := c_siteSig (L := L) h.1 hn x1 x2
  rw [h.2.e68] at j1
  exact ⟨J2, K2, j1, ⟨j2, h.2.tr j3.x⟩, j3⟩
theorem mK.ss (h : mK zk N P I J) {zi zj : Nat} (hi : zi < nv (I 68 2)) (hj : zj < nv (I 68 3)) {zn : Nat} (hn : 200 < zn) : ∃ J2 K2, f_X12_siteSignal zn N J L P 67 (nI zi) (nI zj) = some (q_sgI (I 68) zi zj, J2, K2) ∧ mK zk N P I J2 ∧ m_gF J J2 := by
  have hG := h.gw
  have e68 := h.2.e68
  have h2 : nv (J 68 2) ≤ 8 := h.1.n2.2
  have h3 : nv (J 68 3) ≤ 8 := h.1.n3.2
  rw [← e68] at hi hj ⊢
  have hc := h.sr.ri.2.2 zi hi
  have w0 : rg (J 68 (170 + 4 * zi + 0)) 20 := hc.2.1
  have w1 : rg (J 68 (170 + 4 * zi + 1)) 20 := hc.2.2.1
  have v0 : rg (J 68 (202 + 2 * zj + 0)) 20 := (h.sr.rn.2.2 zj hj 0 (by decide)).2
  have v1 : rg (J 68 (202 + 2 * zj + 1)) 20 := (h.sr.rn.2.2 zj hj 1 (by decide)).2
  obtain ⟨J0, J2, K2, k1, k2, k3, k4, k5, k6, k7⟩ := m_find (I := J) (L := L) (pw := J 68 (170 + 4 * zi + 2)) hG h.sr.wf4 h.sr.wf2 w0 w1 v0 v1 hn
  have ia0 : nI 170 + nI 4 * nI zi = nI (170 + 4 * zi) := by rw [pk_mul, nI_add]
  have ia1 : nI 202 + nI 2 * nI zj = nI (202 + 2 * zj) := by rw [pk_mul, nI_add]
  have b0 : p_ib N 68 (nI (170 + 4 * zi)) = true := ib_68 hG (by omega)
  have b1 : p_ib N 68 (nI (170 + 4 * zi + 1)) = true := ib_68 hG (by omega)
  have b2 : p_ib N 68 (nI (170 + 4 * zi + 2)) = true := ib_68 hG (by omega)
  have b3 : p_ib N 68 (nI (202 + 2 * zj)) = true := ib_68 hG (by omega)
  have b4 : p_ib N 68 (nI (202 + 2 * zj + 1)) = true := ib_68 hG (by omega)
  have c0 : (nI (170 + 4 * zi)).toNatClampNeg = 170 + 4 * zi := nI_clamp (by omega)
  have c1 : (nI (170 + 4 * zi + 1)).toNatClampNeg = 170 + 4 * zi + 1 := nI_clamp (by omega)
  have c2 : (nI (170 + 4 * zi + 2)).toNatClampNeg = 170 + 4 * zi + 2 := nI_clamp (by omega)
  have c3 : (nI (202 + 2 * zj)).toNatClampNeg = 202 + 2 * zj := nI_clamp (by omega)
  have c4 : (nI (202 + 2 * zj + 1)).toNatClampNeg = 202 + 2 * zj + 1 := nI_clamp (by omega)
  have hg : m_gF J J2 := ⟨fun zq a b c => k5.1 zq a c, k5.2⟩
  refine ⟨J2, K2, ?_, ⟨h.1.scratch (fun zq hq => k5.1 zq (by omega) (by omega)), h.2.tr hg.x⟩, hg⟩
  unfold f_X12_siteSignal
  simp only [gp_67_0 hG, Option.bind_some, ia0, ia1, nI_add, n_ck b0, n_ck b1, n_ck b2, n_ck b3, n_ck b4, c0, c1, c2, c3, c4, k7]
  rw [show J 68 (170 + 4 * zi) = J 68 (170 + 4 * zi + 0) from rfl, k1, Option.bind_some, k7, show J 68 (202 + 2 * zj) = J 68 (202 + 2 * zj + 0) from rfl, k2, Option.bind_some, k3]
  rfl
end Serves
theorem sp_serves {n zk : Nat} (hn : 200 < n) : Sp_serves n (Ivv zk) (Ivv (zk + 1)) := by
  intro N I L P h x1 x2
  have h : IV zk N P I := h
  have hG := h.gw
  obtain ⟨J, K, k1, k2, k3⟩ := c_siteSig (L := L) h (zn := n) (by omega) x1 x2
  have e68 := k3.e68
  have hcl : f_X11_serves n N I L P 0 x1 x2 = some (q_sgIv (I 68) x1 x2, J, K) := by
    unfold f_X11_serves
    rw [gp_0_3 hG, Option.bind_some, k1, Option.bind_some]
  have r2 : rg (J 68 2) 8 := k2.n2
  have r3 : rg (J 68 3) 8 := k2.n3
  rcases q_of_x h.n2 (by decide) x1 with ⟨e1, g1⟩ | ⟨zi, hi, e1, g1⟩
  · refine ⟨(q_sgIv (I 68) x1 x2, J, K), (-1, J, K), hcl, ?_, ?_, k2.up⟩
    · unfold f_X12_serves
      rw [m_isOf hG (show 2 < 30 by decide) r2 (by decide), Option.bind_some, e68]
      show (if bI (q_of (I 68) 2 x1) = 0 then _ else _) = _
      rw [e1, bI_iff]
    · unfold q_sgIv
      rw [e1, Bool.false_and]; rfl
  · rcases q_of_x h.n3 (by decide) x2 with ⟨e2, g2⟩ | ⟨zj, hj, e2, g2⟩
    · refine ⟨(q_sgIv (I 68) x1 x2, J, K), (-1, J, K), hcl, ?_, ?_, k2.up⟩
      · unfold f_X12_serves
        rw [m_isOf hG (show 2 < 30 by decide) r2 (by decide), Option.bind_some, m_isOf hG (show 3 < 30 by decide) r3 (by decide), Option.bind_some, e68]
        show (if bI (q_of (I 68) 2 x1) = 0 then _ else (if bI (q_of (I 68) 3 x2) = 0 then _ else _)) = _
        rw [g1, bI_ift, e2, bI_iff]
      · unfold q_sgIv
        rw [e2, Bool.and_false]; rfl
    · obtain ⟨J2, K2, m1, m2, m3⟩ := (mK.rf k2).ss (L := K) (zi := zi) (zj := zj) (by rw [e68]; exact hi) (by rw [e68]; exact hj) hn
      have h2 := h.n2.2
      have h3 := h.n3.2
      refine ⟨(q_sgIv (I 68) x1 x2, J, K), (q_sgI (J 68) zi zj, J2, K2), hcl, ?_, ?_, m2.1.up⟩
      · unfold f_X12_serves
        rw [m_isOf hG (show 2 < 30 by decide) r2 (by decide), Option.bind_some, m_isOf hG (show 3 < 30 by decide) r3 (by decide), Option.bind_some, e68]
        show (if bI (q_of (I 68) 2 x1) = 0 then _ else (if bI (q_of (I 68) 3 x2) = 0 then _ else _)) = _
        rw [g1, bI_ift, g2, bI_ift, e1, e2, m1, Option.bind_some, e68]
      · unfold q_sgIv
        dsimp only
        rw [g1, g2, Bool.and_self, if_pos rfl, e1, e2, nv_nI (zk := zi) (by omega), nv_nI (zk := zj) (by omega), e68]
