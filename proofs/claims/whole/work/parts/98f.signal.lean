/-! signals: both answer the same, and remember it -/
theorem nv_nI {zk : Nat} (h : zk < 2 ^ 31) : nv (nI zk) = zk := nI_clamp h
def q_st (A : Nat → Int32) (x : Int32) : Bool := !decide (x < 0) && (!decide (A 1 ≤ x) && q_seeN A (nv x))
def q_sgv (A : Nat → Int32) (x1 x2 x3 : Int32) : Int32 := if (q_st A x1 && q_pt x2 x3) = true then q_sgS A (nv x1) (nv x2) (nv x3) else -1
def c_gF (I J : pI) : Prop := ∀ zq, zq ≠ 21 → zq ≠ 29 → zq ≠ 30 → zq ≠ 31 → zq ≠ 44 → zq ≠ 45 → zq ≠ 46 → J zq = I zq
theorem c_gF.rf {I : pI} : c_gF I I := fun _ _ _ _ _ _ _ _ => rfl
theorem c_gF.tr {I J K : pI} (h1 : c_gF I J) (h2 : c_gF J K) : c_gF I K := fun zq a b c d e f g => (h2 zq a b c d e f g).trans (h1 zq a b c d e f g)
def m_gF (I J : pI) : Prop := (∀ zq, zq ≠ 67 → zq ≠ 77 → zq < 70 ∨ 75 < zq → J zq = I zq) ∧ ∀ zj, zj ≠ 6 → zj ≠ 13 → zj < 14 ∨ 18 < zj → J 67 zj = I 67 zj
theorem m_gF.rf {I : pI} : m_gF I I := ⟨fun _ _ _ _ => rfl, fun _ _ _ _ => rfl⟩
theorem m_gF.tr {I J K : pI} (h1 : m_gF I J) (h2 : m_gF J K) : m_gF I K := ⟨fun zq a b c => (h2.1 zq a b c).trans (h1.1 zq a b c), fun zj a b c => (h2.2 zj a b c).trans (h1.2 zj a b c)⟩
section Signal
variable {N : pN} {P : pR} {I J : pI} {L : pL} {zk : Nat}
theorem IV.gw (h : IV zk N P I) : GW N P := h.1
theorem IV.sr (h : IV zk N P I) : SR N P I 1 0 := h.2.1
theorem SR.rt {b o : Nat} (h : SR N P I b o) : R_tape N P I b o := h.1
theorem SR.rw {b o : Nat} (h : SR N P I b o) : R_walls N P I b o := h.2.1
theorem SR.rs {b o : Nat} (h : SR N P I b o) : R_senders N P I b o := h.2.2.1
theorem SR.ri {b o : Nat} (h : SR N P I b o) : R_sites N P I b o := h.2.2.2.1
theorem SR.rn {b o : Nat} (h : SR N P I b o) : R_needs N P I b o := h.2.2.2.2.1
theorem SR.ru {b o : Nat} (h : SR N P I b o) : R_stuffs N P I b o := h.2.2.2.2.2.1
theorem SR.rg {b o : Nat} (h : SR N P I b o) : R_sets N P I b o := h.2.2.2.2.2.2.1
theorem SR.rl {b o : Nat} (h : SR N P I b o) : R_lawt N P I b o := h.2.2.2.2.2.2.2.1
theorem SR.rk {b o : Nat} (h : SR N P I b o) : R_walk N P I b o := h.2.2.2.2.2.2.2.2.1
theorem SR.rf {b o : Nat} (h : SR N P I b o) : R_flds I b o := h.2.2.2.2.2.2.2.2.2
theorem IV.n1 (h : IV zk N P I) : rg (I 68 1) 6 := h.sr.rs.1
theorem IV.n0 (h : IV zk N P I) : rg (I 68 0) 12 := h.sr.rw.1
theorem IV.n2 (h : IV zk N P I) : rg (I 68 2) 8 := h.sr.ri.1
theorem IV.n3 (h : IV zk N P I) : rg (I 68 3) 8 := h.sr.rn.1
theorem SR.wf4 (h : SR N P I 1 0) : q_wf4 (I 68) := ⟨h.rw.1, fun zw hw => (h.rw.2.2 zw hw).2.2.2.1⟩
theorem SR.wf2 (h : SR N P I 1 0) : q_wf2 (I 68) := fun zw hw zj hj => (h.rw.2.2 zw hw).2.1 zj hj
theorem q_see_lt {T : Nat → Int32} {zw : Nat} (h : q_seeW T zw = true) : zw < nv (T 0) := by
  unfold q_seeW at h
  rw [Bool.and_eq_true, decide_eq_true_iff] at h
  exact h.1
theorem SR.wfs (h : SR N P I 1 0) : q_wfs (I 68) := ⟨h.rw.1.2, fun zw hw zj hj => h.wf2 zw (q_see_lt hw) zj hj⟩
theorem SR.wfu (h : SR N P I 1 0) : q_wfu (I 68) := fun zw hw => by
  rcases (h.rw.2.2 zw (q_see_lt hw)).2.2.1 with g | g
  · exact Or.inl g.1
  · exact Or.inr g.1
theorem q_st_nI {A : Nat → Int32} {zh zs : Nat} (h1 : rg (A 1) zh) (hh : zh < 100000) (hs : zs < nv (A 1)) : q_st A (nI zs) = q_seeN A zs := by
  have h2 := h1.2
  have e1 : ¬ nI zs < 0 := nI_pos (by omega)
  have e2 : ¬ A 1 ≤ nI zs := by rw [h1.1]; exact nI_ge hs (by omega)
  unfold q_st
  rw [decide_eq_false e1, decide_eq_false e2, nv_nI (by omega)]
  rfl
theorem q_st_x {A : Nat → Int32} {zh : Nat} (h1 : rg (A 1) zh) (hh : zh < 100000) (x : Int32) : (q_st A x = false ∧ (x < 0 ∨ A 1 ≤ x)) ∨ ∃ zs, zs < nv (A 1) ∧ x = nI zs ∧ q_st A x = q_seeN A zs := by
  have h2 := h1.2
  rcases pk_ix x (n := nv (A 1)) (by omega) with g | g | ⟨zs, g, e⟩
  · refine Or.inl ⟨?_, Or.inl g⟩
    unfold q_st
    rw [decide_eq_true g]
    rfl
  · have g2 : A 1 ≤ x := by rw [h1.1]; exact g
    refine Or.inl ⟨?_, Or.inr g2⟩
    unfold q_st
    rw [decide_eq_true g2]
    cases decide (x < 0) <;> rfl
  · refine Or.inr ⟨zs, g, e, ?_⟩
    rw [e]
    exact q_st_nI h1 hh g
theorem c_st (hG : GW N P) (hS : SR N P I 1 0) (x : Int32) : f_X7_senderStands N I P 1 x = some (bI (q_st (I 68) x)) := by
  have r1 : rg (I 68 1) 6 := hS.rs.1
  rcases q_st_x r1 (by decide) x with ⟨e, g⟩ | ⟨zs, hs, e, e2⟩
  · rw [c_stands_n hG hS.rs g, e]; rfl
  · rw [e2, e]
    exact c_stands hG hS.rs hS.rf hs
theorem m_st (hG : GW N P) (hS : SR N P I 1 0) (x : Int32) : f_X12_seesSender N I P 67 x = some (bI (q_st (I 68) x)) := by
  have r1 : rg (I 68 1) 6 := hS.rs.1
  rcases q_st_x r1 (by decide) x with ⟨e, g⟩ | ⟨zs, hs, e, e2⟩
  · rw [m_sees_n hG r1 g, e]; rfl
  · rw [e2, e]
    exact m_sees hG r1 hs
/-- what a search of the class leaves, with what it remembers -/
theorem IV.memo (h : IV zk N P I) (hF : c_sF I J) {zr zt : Nat} (hT : TB N P J 29 30 169 6 zr) (ht : zt < 2710) {zv : Int32} (hv1 : ∀ zs zx zy, zs < nv (I 68 1) → zx ≤ 20 → zy ≤ 20 → (zs * 21 + zy) * 21 + zx = zt → zv = q_sgS (I 68) zs zx zy) (hv2 : ∀ zi zj, zi < nv (I 68 2) → zj < nv (I 68 3) → 2646 + zi * 8 + zj = zt → zv = q_sgI (I 68) zi zj) : IV zk N P (p_u (p_u (p_u J 45 zt zv) 46 zt (p_u J 45 zt zv 44 6)) 44 7 (-1)) ∧ c_gF I (p_u (p_u (p_u J 45 zt zv) 46 zt (p_u J 45 zt zv 44 6)) 44 7 (-1)) := by
  have e6 : p_u J 45 zt zv 44 6 = I 44 6 := by rw [p_u_ne (by decide), hF.1 44 (by decide) (by decide) (by decide) (by decide)]
  rw [e6]
  have hg : c_gF I (p_u (p_u (p_u J 45 zt zv) 46 zt (I 44 6)) 44 7 (-1)) := fun zq a b c d e f g => by rw [p_u_ne e, p_u_ne g, p_u_ne f, hF.1 zq a b c d]
  have e68 : p_u (p_u (p_u J 45 zt zv) 46 zt (I 44 6)) 44 7 (-1) 68 = I 68 := hg 68 (by decide) (by decide) (by decide) (by decide) (by decide) (by decide) (by decide)
  have e446 : p_u (p_u (p_u J 45 zt zv) 46 zt (I 44 6)) 44 7 (-1) 44 6 = I 44 6 := by rw [p_u_nk (by decide), p_u_ne (by decide), p_u_ne (by decide), hF.1 44 (by decide) (by decide) (by decide) (by decide)]
  have e46 : p_u (p_u (p_u J 45 zt zv) 46 zt (I 44 6)) 44 7 (-1) 46 = p_u I 46 zt (I 44 6) 46 := by
    funext zj
    rw [p_u_ne (by decide)]
    by_cases hj : zj = zt
    · rw [hj, p_u_self, p_u_self]
    · rw [p_u_nk hj, p_u_nk hj, p_u_ne (by decide), hF.1 46 (by decide) (by decide) (by decide) (by decide)]
  have e45 : p_u (p_u (p_u J 45 zt zv) 46 zt (I 44 6)) 44 7 (-1) 45 = p_u I 45 zt zv 45 := by
    funext zj
    rw [p_u_ne (by decide), p_u_ne (by decide)]
    by_cases hj : zj = zt
    · rw [hj, p_u_self, p_u_self]
    · rw [p_u_nk hj, p_u_nk hj, hF.1 45 (by decide) (by decide) (by decide) (by decide)]
  have e447 : p_u (p_u (p_u J 45 zt zv) 46 zt (I 44 6)) 44 7 (-1) 44 7 = -1 := p_u_self
  have e21 : p_u (p_u (p_u J 45 zt zv) 46 zt (I 44 6)) 44 7 (-1) 21 = J 21 := by rw [p_u_ne (by decide), p_u_ne (by decide), p_u_ne (by decide)]
  have e29 : p_u (p_u (p_u J 45 zt zv) 46 zt (I 44 6)) 44 7 (-1) 29 = J 29 := by rw [p_u_ne (by decide), p_u_ne (by decide), p_u_ne (by decide)]
  refine ⟨?_, hg⟩
  generalize p_u (p_u (p_u J 45 zt zv) 46 zt (I 44 6)) 44 7 (-1) = K at hg e68 e446 e46 e45 e447 e21 e29
  obtain ⟨h1, h2, h3, h4, h5, h6, h7⟩ := h
  refine ⟨h1, h2.of (fun zq a b => hg zq (by omega) (by omega) (by omega) (by omega) (by omega) (by omega) (by omega)) (fun zj _ => by rw [e68]), h3.of (fun zq a => hg zq (by omega) (by omega) (by omega) (by omega) (by omega) (by omega) (by omega)) (fun zj _ => by rw [e68]) (hg 69 (by decide) (by decide) (by decide) (by decide) (by decide) (by decide) (by decide)), ?_, ?_, ?_, Or.inl e447, h7.2.of (hg 65 (by decide) (by decide) (by decide) (by decide) (by decide) (by decide) (by decide))⟩
  · obtain ⟨b1, b2, b3, _, b5⟩ := h4
    refine ⟨?_, by rw [e68, e21, hF.2 10 (by decide) (by decide)]; exact b2, by rw [e68, e21, hF.2 11 (by decide) (by decide)]; exact b3, ⟨zr, hT.of (fun zi => by rw [e29])⟩, fun zw hw => by rw [hg (43 - zw) (by omega) (by omega) (by omega) (by omega) (by omega) (by omega) (by omega)]; exact b5 zw hw⟩
    intro zw hw
    have h3 := b1 zw hw
    unfold q_bar at h3 ⊢
    rw [e68, hg (43 - zw) (by omega) (by omega) (by omega) (by omega) (by omega) (by omega) (by omega)]
    exact h3
  · unfold R_memo at h5 ⊢
    rw [e68, e446, e45, e46]
    obtain ⟨⟨zs, s1, s2, s3⟩, h52, h53⟩ := h5
    refine ⟨⟨zs, s1, s2, fun zj hj => ?_⟩, fun as ax ay g1 g2 g3 g4 => ?_, fun ai aj g1 g2 g4 => ?_⟩
    · by_cases hz : zj = zt
      · exact ⟨zs + 1, Nat.le_refl _, by rw [hz, p_u_self, s2]⟩
      · rw [p_u_nk hz]; exact s3 zj hj
    · by_cases hz : (as * 21 + ay) * 21 + ax = zt
      · rw [hz, p_u_self]; exact hv1 as ax ay g1 g2 g3 hz
      · rw [p_u_nk hz] at g4 ⊢; exact h52 as ax ay g1 g2 g3 g4
    · by_cases hz : 2646 + ai * 8 + aj = zt
      · rw [hz, p_u_self]; exact hv2 ai aj g1 g2 hz
      · rw [p_u_nk hz] at g4 ⊢; exact h53 ai aj g1 g2 g4
  · unfold R_msig at h6 ⊢
    rw [e68, hg 77 (by decide) (by decide) (by decide) (by decide) (by decide) (by decide) (by decide)]
    exact h6
theorem SR.sn (h : SR N P I 1 0) {zs : Nat} (hs : zs < nv (I 68 1)) : (∀ zj, zj < 7 → I 7 (zs * 8 + zj) = I 68 (120 + 8 * zs + zj)) ∧ (I 68 (120 + 8 * zs + 6) = -1 ∨ I 7 (zs * 8 + 7) = I 68 (120 + 8 * zs + 7)) ∧ q_wfsn (fun zj => I 68 (120 + 8 * zs + zj)) := h.rs.2.2 zs hs
theorem SR.tbs (h : SR N P I 1 0) : TB N P I 6 7 6 8 (nv (I 68 1)) := h.rs.2.1
theorem c_search1 (h : IV zk N P I) {zs zx zy : Nat} (hs : zs < nv (I 68 1)) (hx : zx ≤ 20) (hy : zy ≤ 20) {zn : Nat} (hn : 16 < zn) : ∃ J K, f_X2_search zn N I L P 21 6 (nI zs) (nI 3) (nI zx) (nI zy) = some (q_sgS (I 68) zs zx zy, J, K) ∧ q_FR N P J (q_alS (I 68) zs zx zy) ∧ c_sF I J := by
  have hS := h.sr
  obtain ⟨b1, b2, b3, ⟨zr, b4⟩, b5⟩ := h.2.2.2.1
  have b2 := b2.resolve_left (fun g => by have := g.1; omega)
  have hw := (hS.sn hs).2.2
  obtain ⟨w0, w1, w2, w3, w4⟩ := hw
  have hbd : rg (I 68 12) 100 := (hS.rg.2.1 1 (by decide)).2
  obtain ⟨J, K, k1, k2, k3, k4⟩ := c_search (L := L) h.gw hS.wfs hS.wfu w0 w1 (rg.of hx (by decide)) (rg.of hy (by decide)) w3 hbd b1 b2 b3 b4 (a1 := 6) (x2 := nI zs) (x3 := nI 3) (fun J hJ => by
    have tJ : TB N P J 6 7 6 8 (nv (I 68 1)) := hS.tbs.of (fun zi => by rw [hJ 6 (by decide) (by decide)])
    have hc := (hS.sn hs).1
    refine ⟨?_, ?_, ?_⟩
    · rw [tb_get tJ hs (show 3 < 8 by decide), hJ 7 (by decide) (by decide), hc 3 (by decide)]
    · rw [tb_get tJ hs (show 0 < 8 by decide), hJ 7 (by decide) (by decide), hc 0 (by decide)]
    · rw [tb_get tJ hs (show 1 < 8 by decide), hJ 7 (by decide) (by decide), hc 1 (by decide)]) hn
  exact ⟨J, K, by rw [k1, q_sig_C hS.wfs.1]; rfl, k2, k3⟩
theorem c_signal1 (h : IV zk N P I) {zs zx zy : Nat} (hs : zs < nv (I 68 1)) (hx : zx ≤ 20) (hy : zy ≤ 20) {zn : Nat} (hn : 16 < zn) (hsee : q_st (I 68) (nI zs) = true) : ∃ J K, f_X3_signalAt zn N I L P 44 (nI zs) (nI zx) (nI zy) = some (q_sgS (I 68) zs zx zy, J, K) ∧ IV zk N P J ∧ c_gF I J := by
  have hG := h.gw
  have h6 := h.n1.2
  have hpt : q_pt (nI zx) (nI zy) = true := by
    unfold q_pt
    rw [decide_eq_false (nI_pos (by omega)), decide_eq_false (nI_ge (show zx < 21 by omega) (by omega)), decide_eq_false (nI_pos (by omega)), decide_eq_false (nI_ge (show zy < 21 by omega) (by omega))]
    rfl
  have e1 : nI zs * nI 21 + nI zy = nI (zs * 21 + zy) := by rw [pk_mul, nI_add]
  have e2 : nI (zs * 21 + zy) * nI 21 + nI zx = nI ((zs * 21 + zy) * 21 + zx) := by rw [pk_mul, nI_add]
  have hk : (zs * 21 + zy) * 21 + zx < 2646 := by omega
  have hkey : f_X3_keyOf (nI zs) (nI zx) (nI zy) = some (nI ((zs * 21 + zy) * 21 + zx)) := by
    unfold f_X3_keyOf
    rw [e1, e2]
  unfold f_X3_signalAt
  rw [gp_44_0 hG, Option.bind_some, c_st hG h.sr, Option.bind_some, hsee, bI_ift, c_point, Option.bind_some, hpt, bI_ift, hkey, Option.bind_some]
  have hinj : ∀ as ax ay, ax ≤ 20 → ay ≤ 20 → (as * 21 + ay) * 21 + ax = (zs * 21 + zy) * 21 + zx → as = zs ∧ ax = zx ∧ ay = zy := fun as ax ay a b c => by omega
  have hmem := h.2.2.2.2.1.2.1 zs zx zy hs hx hy
  generalize (zs * 21 + zy) * 21 + zx = zt at hk hinj hmem
  have hib45 : p_ib N 45 (nI zt) = true := n_ib (gn_45 hG) (by omega) (by decide)
  have hib46 : p_ib N 46 (nI zt) = true := n_ib (gn_46 hG) (by omega) (by decide)
  have c45 : ¬ nI (N.2 45).2 ≤ nI zt := by rw [gn_45 hG]; exact nI_ge (by omega) (by decide)
  have c46 : nI zt < nI (N.2 46).2 := by rw [gn_46 hG]; exact nI_lt (by omega) (by decide)
  rw [if_neg (nI_pos (by omega)), gp_44_2 hG, Option.bind_some, if_neg c45, gp_44_3 hG, Option.bind_some, if_pos c46, Option.bind_some, n_ck hib46, nI_clamp (by omega)]
  by_cases hst : I 46 zt = I 44 6
  · rw [if_pos hst, Option.bind_some, Option.bind_some, n_ck hib45]
    exact ⟨I, L, by rw [← hmem hst], h, c_gF.rf⟩
  · obtain ⟨J, K, k1, k2, k3⟩ := c_search1 (L := L) h hs hx hy hn
    rw [if_neg hst, Option.bind_some, gp_44_1 hG, Option.bind_some, Option.bind_some, gp_1_2 hG, Option.bind_some, k1, Option.bind_some, n_ck hib45, n_let, Option.bind_some, n_ck hib46, n_let, n_let, Option.bind_some, Option.bind_some, n_ck hib45]
    have hm := h.memo k3 k2.1 (zt := zt) (by omega) (zv := q_sgS (I 68) zs zx zy) (fun as ax ay a b c d => by
      obtain ⟨e3, e4, e5⟩ := hinj as ax ay b c d
      rw [e3, e4, e5]) (fun ai aj a b c => by omega)
    refine ⟨_, K, ?_, hm.1, hm.2⟩
    dsimp only
    rw [p_u_ne (a := 44) (by decide), p_u_ne (a := 46) (by decide), p_u_self]
/-- the class's signal, of whoever and wherever -/
theorem c_signal (h : IV zk N P I) {zn : Nat} (hn : 16 < zn) (x1 x2 x3 : Int32) : ∃ J K, f_X3_signalAt zn N I L P 44 x1 x2 x3 = some (q_sgv (I 68) x1 x2 x3, J, K) ∧ IV zk N P J ∧ c_gF I J := by
  have hG := h.gw
  rcases Bool.eq_false_or_eq_true (q_st (I 68) x1) with hb | hb
  · rcases Bool.eq_false_or_eq_true (q_pt x2 x3) with hp | hp
    · obtain ⟨zx, zy, hx, hy, e2, e3⟩ := q_ptx hp
      rcases q_st_x h.n1 (by decide) x1 with ⟨e, g⟩ | ⟨zs, hs, e, _⟩
      · rw [hb] at e; cases e
      · have h6 := h.n1.2
        unfold q_sgv
        rw [hb, hp, e, e2, e3, nv_nI (zk := zs) (by omega), nv_nI (zk := zx) (by omega), nv_nI (zk := zy) (by omega)]
        exact c_signal1 h hs hx hy hn (by rw [← e]; exact hb)
    · unfold f_X3_signalAt q_sgv
      rw [gp_44_0 hG, Option.bind_some, c_st hG h.sr, Option.bind_some, hb, bI_ift, c_point, Option.bind_some, hp, bI_iff]
      exact ⟨I, L, rfl, h, c_gF.rf⟩
  · unfold f_X3_signalAt q_sgv
    rw [gp_44_0 hG, Option.bind_some, c_st hG h.sr, Option.bind_some, hb, bI_iff]
    exact ⟨I, L, rfl, h, c_gF.rf⟩
/-- the reference's -/
theorem IV.msig (h : IV zk N P I) (hF : m_gF I J) {zs zx zy : Nat} (hs : zs < nv (I 68 1)) (hx : zx ≤ 20) (hy : zy ≤ 20) (e1 : J 77 (441 * zs + 21 * zy + zx) = q_sgS (I 68) zs zx zy) (e2 : ∀ zj, zj ≠ 441 * zs + 21 * zy + zx → J 77 zj = I 77 zj) : IV zk N P J := by
  obtain ⟨h1, h2, h3, h4, h5, h6, h7⟩ := h
  have e68 := hF.1 68 (by decide) (by decide) (by decide)
  have hI : IV zk N P (fun zq => if zq = 77 then I 77 else J zq) := IV.scratch (I := I) ⟨h1, h2, h3, h4, h5, h6, h7⟩ (fun zq hq => by
    by_cases hz : zq = 77
    · rw [if_pos hz, hz]
    · rw [if_neg hz]
      exact hF.1 zq (by omega) hz (by omega))
  obtain ⟨g1, g2, g3, g4, g5, g6, g7⟩ := hI
  have es : ∀ zq, zq ≠ 77 → J zq = (fun zq => if zq = 77 then I 77 else J zq) zq := fun zq hq => (if_neg hq).symm
  refine ⟨h1, g2.of (fun zq a b => es zq (by omega)) (fun zj _ => rfl), g3.of (fun zq a => es zq (by omega)) (fun zj _ => rfl) rfl, ?_, g5, ?_, g7⟩
  · obtain ⟨b1, b2, b3, ⟨zr, b4⟩, b5⟩ := g4
    refine ⟨?_, b2, b3, ⟨zr, b4⟩, fun zw hw => by rw [es (43 - zw) (by omega)]; exact b5 zw hw⟩
    intro zw hw
    have h3 := b1 zw hw
    unfold q_bar at h3 ⊢
    have e9 := es (43 - zw) (by omega)
    rw [← e9] at h3
    exact h3
  · intro as ax ay a1 a2 a3
    rw [e68]
    by_cases hz : 441 * as + 21 * ay + ax = 441 * zs + 21 * zy + zx
    · have hq : as = zs ∧ ax = zx ∧ ay = zy := by omega
      obtain ⟨q1, q2, q3⟩ := hq
      rw [q1, q2, q3]
      exact Or.inr ⟨hs, e1⟩
    · rw [e2 _ hz]
      exact h6 as ax ay a1 a2 a3
theorem m_signal1 (h : IV zk N P I) {zs zx zy : Nat} (hs : zs < nv (I 68 1)) (hx : zx ≤ 20) (hy : zy ≤ 20) {zn : Nat} (hn : 200 < zn) : ∃ J K, f_X12_signalOf zn N I L P 67 (nI zs) (nI zx) (nI zy) = some (q_sgS (I 68) zs zx zy, J, K) ∧ IV zk N P J ∧ m_gF I J := by
  have h6 := h.n1.2
  have hw := (h.sr.sn hs).2.2
  have hm : I 77 (441 * zs + 21 * zy + zx) = -1 ∨ I 77 (441 * zs + 21 * zy + zx) = q_sgS (I 68) zs zx zy := (h.2.2.2.2.2.1 zs zx zy (by omega) hx hy).imp id (fun h => h.2)
  obtain ⟨J, K, k1, k2, k3, k4, k5, k6⟩ := m_signalOf (L := L) h.gw h.sr.wf4 h.sr.wf2 (by omega) hx hy hw.1 hw.2.1 hm hn
  exact ⟨J, K, k1, h.msig ⟨k4, k5⟩ hs hx hy k2 k3, k4, k5⟩
theorem m_signal (h : IV zk N P I) {zn : Nat} (hn : 200 < zn) (x1 x2 x3 : Int32) : ∃ J K, f_X12_signal zn N I L P 67 x1 x2 x3 = some (q_sgv (I 68) x1 x2 x3, J, K) ∧ IV zk N P J ∧ m_gF I J := by
  have hG := h.gw
  unfold f_X12_signal q_sgv
  rw [m_st hG h.sr, Option.bind_some]
  rcases Bool.eq_false_or_eq_true (q_st (I 68) x1) with hb | hb
  · rw [hb, bI_ift, m_point, Option.bind_some]
    rcases Bool.eq_false_or_eq_true (q_pt x2 x3) with hp | hp
    · rw [hp, bI_ift]
      obtain ⟨zx, zy, hx, hy, e2, e3⟩ := q_ptx hp
      rcases q_st_x h.n1 (by decide) x1 with ⟨e, g⟩ | ⟨zs, hs, e, _⟩
      · rw [hb] at e; cases e
      · have h6 := h.n1.2
        obtain ⟨J, K, k1, k2, k3⟩ := m_signal1 (L := L) h hs hx hy hn
        rw [e, e2, e3, k1, Option.bind_some, nv_nI (zk := zs) (by omega), nv_nI (zk := zx) (by omega), nv_nI (zk := zy) (by omega)]
        exact ⟨J, K, rfl, k2, k3⟩
    · rw [hp, bI_iff]
      exact ⟨I, L, rfl, h, m_gF.rf⟩
  · rw [hb, bI_iff]
    exact ⟨I, L, rfl, h, m_gF.rf⟩
end Signal
def Ivv (k : Nat) (N : pN) (I : pI) (_ : pL) (P : pR) : Prop := IV k N P I
theorem IV.up {N : pN} {P : pR} {I : pI} {zk : Nat} (h : IV zk N P I) : IV (zk + 1) N P I := by
  obtain ⟨h1, h2, h3, h4, h5, h6, h7⟩ := h
  refine ⟨h1, h2, h3, h4, ?_, h6, h7⟩
  obtain ⟨⟨zs, s1, s2⟩, h5⟩ := h5
  exact ⟨⟨zs, by omega, s2⟩, h5⟩
theorem sp_signal {n zk : Nat} (hn : 200 < n) : Sp_signal n (Ivv zk) (Ivv (zk + 1)) := by
  intro N I L P h x1 x2 x3
  have h : IV zk N P I := h
  obtain ⟨J, K, k1, k2, k3⟩ := c_signal (L := L) h (zn := n) (by omega) x1 x2 x3
  obtain ⟨J2, K2, m1, m2, m3⟩ := m_signal (L := K) k2 hn x1 x2 x3
  refine ⟨(q_sgv (I 68) x1 x2 x3, J, K), (q_sgv (J 68) x1 x2 x3, J2, K2), ?_, m1, ?_, m2.up⟩
  · unfold f_X11_signal
    rw [gp_0_3 h.gw, Option.bind_some, k1, Option.bind_some]
  · rw [k3 68 (by decide) (by decide) (by decide) (by decide) (by decide) (by decide) (by decide)]
