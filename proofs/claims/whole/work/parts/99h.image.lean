/-! image -/
theorem gw_N_lt : ∀ q ∈ gw_N, q.1 < 86 := by decide
theorem gw_P_lt : ∀ q ∈ gw_P, q.1 < 86 ∧ q.1 ≠ 20 := by decide
section Image
variable {N N' : pN} {P P' : pR} {I J M : pI} {L : pL} {zk : Nat}
theorem q_mvd_same {b : Nat} (hN : ∀ q, b ≤ q → q < b + 19 → N'.2 q = N.2 q) (hP : ∀ q, b ≤ q → q < b + 19 → P' q = P q) (hM : ∀ q, b ≤ q → q < b + 19 → M q = I q) : q_mvd N N' P P' I M b b := by
  intro j hj r hr
  obtain ⟨a1, a2, a3, a4, a5, a6⟩ := hr
  refine ⟨⟨?_, ?_, ?_, ?_, ?_, a6⟩, fun i _ => by rw [hM _ (by omega) (by omega)]⟩
  · rw [hN _ (by omega) (by omega)]; exact a1
  · rw [hP _ (by omega) (by omega)]; exact a2
  · rw [hM _ (by omega) (by omega)]; exact a3
  · rw [hM _ (by omega) (by omega)]; exact a4
  · rw [hM _ (by omega) (by omega)]; exact a5
theorem GW.grow (h : GW N P) (hW : WT N' P') (hle : N.1 ≤ N'.1) (hN : ∀ q, q < N.1 → N'.2 q = N.2 q) (hP : ∀ q, q < N.1 → q ≠ 20 → P' q = P q) : GW N' P' := by
  obtain ⟨h1, h2, h3, h4, h5, h6, h7⟩ := h
  refine ⟨hW, by omega, fun q hq => ?_, fun q hq => ?_, ?_, ?_, ?_⟩
  · have := gw_N_lt q hq
    rw [hN _ (by omega)]; exact h3 q hq
  · have := gw_P_lt q hq
    rw [hP _ (by omega) this.2]; exact h4 q hq
  · rw [hP 32 (by omega) (by decide)]; exact h5
  · rw [hP 56 (by omega) (by decide)]; exact h6
  · rw [hP 62 (by omega) (by decide)]; exact h7
theorem IV.img (h : IV zk N P I) {k b zo : Nat} (hk : k < 3) (hzo : zo = 1160 * (k + 1)) (hW : WT N' P') (hle : N.1 ≤ N'.1) (hN : ∀ q, q < N.1 → N'.2 q = N.2 q) (hP : ∀ q, q < N.1 → q ≠ 20 → P' q = P q) (h20 : ∀ l, l ≠ k → P' 20 l = P 20 l) (h20k : P' 20 k = some b) (hb : ∃ zj, b = 86 + 19 * zj) (hGS : GS N' P' b) (hJ : ∀ q, (q < b ∨ b + 19 ≤ q) → q < N.1 → J q = I q) (hmv : q_mvd N N' P P' I J 1 b) (hF : ∀ q, 9 ≤ q → q ≤ 12 → J b q = I 1 q) (hdist : ∀ l, l < 3 → l ≠ k → P 20 l ≠ some b) (hcount : N'.1 = 86 + 19 * (q_im P' 0 + q_im P' 1 + q_im P' 2)) (m1 : ∀ q, q ≠ 68 → q ≠ 69 → M q = J q) (m2 : M 69 k = nI 1) (m3 : ∀ l, l ≠ k → M 69 l = J 69 l) (m4 : ∀ zj, zj < 1160 → M 68 (zj + zo) = J 68 zj) (m5 : ∀ zj, (zj < zo ∨ zo + 1160 ≤ zj) → M 68 zj = J 68 zj) : IV zk N' P' M := by
  obtain ⟨zb, hzb⟩ := hb
  have hG' := h.gw.grow hW hle hN hP
  have h86 : 86 ≤ N.1 := h.gw.2.1
  have eM : ∀ q, q < 86 → q ≠ 68 → q ≠ 69 → M q = I q := fun q a b c => by rw [m1 q b c, hJ q (by omega) (by omega)]
  have e68 : ∀ zj, zj < 1160 → M 68 zj = I 68 zj := fun zj a => by rw [m5 zj (by omega), hJ 68 (by omega) (by omega)]
  have hS' : SR N' P' M 1 0 := h.sr.move (q_mvd_same (fun q a b => hN q (by omega)) (fun q a b => hP q (by omega) (by omega)) (fun q a b => eM q (by omega) (by omega) (by omega))) (fun q a b => by rw [eM 1 (by decide) (by decide) (by decide)]) (fun zj a => e68 zj a)
  obtain ⟨h1, h2, h3, h4, h5, h6, h7, h8⟩ := h
  have hag : ∀ zj, q_tw zj → zj < 1160 → M 68 zj = I 68 zj := fun zj _ a => e68 zj a
  have c1 : M 68 1 = I 68 1 := e68 1 (by decide)
  have c2 : M 68 2 = I 68 2 := e68 2 (by decide)
  have c3 : M 68 3 = I 68 3 := e68 3 (by decide)
  have n1 : nv (I 68 1) ≤ 6 := h2.rs.1.2
  have n2 : nv (I 68 2) ≤ 8 := h2.ri.1.2
  have n3 : nv (I 68 3) ≤ 8 := h2.rn.1.2
  have hag : q_ag (I 68) (M 68) := ⟨(e68 _ (by decide)).symm, (e68 _ (by decide)).symm, (e68 _ (by decide)).symm, (e68 _ (by decide)).symm, (e68 _ (by decide)).symm, fun zj hj => ⟨(e68 _ (by omega)).symm, (e68 _ (by omega)).symm⟩, fun zj hj => (e68 _ (by omega)).symm⟩
  have g1 : ∀ zs zx zy, zs < nv (I 68 1) → q_sgS (M 68) zs zx zy = q_sgS (I 68) zs zx zy := fun zs zx zy hs => by
    unfold q_sgS q_sig
    rw [e68 (120 + 8 * zs + 0) (by omega), e68 (120 + 8 * zs + 1) (by omega), e68 (120 + 8 * zs + 3) (by omega), ← cg_all hag h2.wf4]
  have g2 : ∀ zi zj, zi < nv (I 68 2) → zj < nv (I 68 3) → q_sgI (M 68) zi zj = q_sgI (I 68) zi zj := fun zi zj hi hj => by
    unfold q_sgI q_sig
    rw [e68 (170 + 4 * zi + 0) (by omega), e68 (170 + 4 * zi + 1) (by omega), e68 (170 + 4 * zi + 2) (by omega), e68 (202 + 2 * zj + 0) (by omega), e68 (202 + 2 * zj + 1) (by omega), ← cg_all hag h2.wf4]
  have g3 : ∀ zs zx zy, zs < nv (I 68 1) → q_alS (M 68) zs zx zy = q_alS (I 68) zs zx zy := fun zs zx zy hs => by
    unfold q_alS
    rw [e68 (120 + 8 * zs + 0) (by omega), e68 (120 + 8 * zs + 1) (by omega), e68 (120 + 8 * zs + 3) (by omega), ← cg_allC hag h2.wf4]
  have htb : ∀ zr, TB N P I 29 30 169 6 zr → TB N' P' M 29 30 169 6 zr := fun zr t => by
    obtain ⟨a1, a2, a3, a4, a5, a6⟩ := t
    exact ⟨by rw [hN 30 (by omega)]; exact a1, by rw [hP 29 (by omega) (by decide)]; exact a2, by rw [eM 29 (by decide) (by decide) (by decide)]; exact a3, by rw [eM 29 (by decide) (by decide) (by decide)]; exact a4, by rw [eM 29 (by decide) (by decide) (by decide)]; exact a5, a6⟩
  refine ⟨hG', hS', ⟨fun zl hl => ?_, fun zl zl2 zc hl hl2 e1 e2 => ?_, hcount⟩, ?_, ?_, ?_, ?_, h8.of (eM 65 (by decide) (by decide) (by decide))⟩
  · by_cases hz : zl = k
    · subst hz
      refine Or.inr ⟨zb, by rw [h20k, hzb], m2, by rw [← hzb]; exact hGS, ?_⟩
      rw [← hzb, ← hzo]
      refine h2.move (fun j hj r hr => ?_) (fun q a c => ?_) (fun zj a => ?_)
      · obtain ⟨a1, a2⟩ := hmv j hj r hr
        refine ⟨a1.of (fun zi => by rw [m1 _ (by omega) (by omega)]), fun i hi => by rw [m1 _ (by omega) (by omega)]; exact a2 i hi⟩
      · rw [m1 _ (by omega) (by omega)]; exact hF q a c
      · rw [m4 zj a, hJ 68 (by omega) (by omega)]; rfl
    · rw [h20 zl hz, m3 zl hz, hJ 69 (by omega) (by omega)]
      rcases h3.1 zl hl with g | ⟨zj, p1, p2, p3, p4⟩
      · exact Or.inl g
      · refine Or.inr ⟨zj, p1, p2, ?_, ?_⟩
        · obtain ⟨q1, q2, q3⟩ := p3
          refine ⟨by omega, by rw [hN _ (by omega)]; exact q2, fun j hj => ?_⟩
          rw [hN _ (by omega), hN _ (by omega), hP _ (by omega) (by omega), hP _ (by omega) (by omega)]
          exact q3 j hj
        · have q1 := p3.1
          have hne : 86 + 19 * zj ≠ b := fun e => hdist zl hl hz (by rw [p1, e])
          refine p4.move (q_mvd_same (fun q a c => hN q (by omega)) (fun q a c => hP q (by omega) (by omega)) (fun q a c => by rw [m1 q (by omega) (by omega), hJ q (by omega) (by omega)])) (fun q a c => by rw [m1 _ (by omega) (by omega), hJ _ (by omega) (by omega)]) (fun zi a => ?_)
          rw [m5 _ (by omega), hJ 68 (by omega) (by omega)]
  · by_cases hz : zl = k
    · by_cases hz2 : zl2 = k
      · rw [hz, hz2]
      · rw [hz, h20k] at e1
        cases e1
        rw [h20 zl2 hz2] at e2
        exact absurd e2 (hdist zl2 hl2 hz2)
    · by_cases hz2 : zl2 = k
      · rw [hz2, h20k] at e2
        cases e2
        rw [h20 zl hz] at e1
        exact absurd e1 (hdist zl hl hz)
      · rw [h20 zl hz] at e1
        rw [h20 zl2 hz2] at e2
        exact h3.2.1 zl zl2 zc hl hl2 e1 e2
  · obtain ⟨b1, b2, b3, ⟨zr, b4⟩, b5⟩ := h4
    refine ⟨?_, ?_, ?_, ⟨zr, htb zr b4⟩, fun zw hw => by rw [eM (43 - zw) (by omega) (by omega) (by omega)]; exact b5 zw hw⟩
    · intro zw hw
      have h9 := b1 zw hw
      have h8 : q_seeW (I 68) zw = true → q_thr (I 68) zw = q_thr (M 68) zw ∧ q_bck (I 68) zw = q_bck (M 68) zw := fun hs => cg_thr hag hw (h2.wf4.2 zw (q_see_lt hs))
      rw [eM (43 - zw) (by omega) (by omega) (by omega), ← cg_see hag hw]
      refine ⟨h9.1, fun hs => ?_⟩
      obtain ⟨a1, a2, a3⟩ := h9.2 hs
      rw [← (h8 hs).1, ← (h8 hs).2]
      refine ⟨?_, a2, a3⟩
      unfold q_bar at a1 ⊢
      rw [eM (43 - zw) (by omega) (by omega) (by omega), ← cg_up hag hw, ← (h8 hs).1, ← (h8 hs).2, ← cg_w hag hw (show 0 < 7 by decide), ← cg_w hag hw (show 1 < 7 by decide), ← cg_w hag hw (show 2 < 7 by decide), ← cg_w hag hw (show 3 < 7 by decide)]
      exact a1
    · rw [e68 1 (by decide), e68 2 (by decide), eM 21 (by decide) (by decide) (by decide), ← hag.2.2.2.1]; exact b2
    · rw [eM 21 (by decide) (by decide) (by decide), ← hag.2.2.2.2.1]; exact b3
  · unfold R_memo at h5 ⊢
    rw [eM 44 (by decide) (by decide) (by decide), eM 45 (by decide) (by decide) (by decide), eM 46 (by decide) (by decide) (by decide), c1, c2, c3]
    obtain ⟨s1, s2, s3⟩ := h5
    refine ⟨s1, fun zs zx zy a b c d => ?_, fun zi zj a b c => ?_⟩
    · rw [g1 zs zx zy a]; exact s2 zs zx zy a b c d
    · rw [g2 zi zj a b]; exact s3 zi zj a b c
  · intro zs zx zy a b c
    rw [eM 77 (by decide) (by decide) (by decide), c1]
    rcases h6 zs zx zy a b c with g | ⟨g, g4⟩
    · exact Or.inl g
    · exact Or.inr ⟨g, by rw [g1 zs zx zy g]; exact g4⟩
  · unfold R_list q_LS at h7 ⊢
    rw [eM 44 (by decide) (by decide) (by decide), eM 30 (by decide) (by decide) (by decide), eM 31 (by decide) (by decide) (by decide), c1]
    rcases h7 with g | ⟨zs, zx, zy, a1, a2, a3, a4, a5, a6⟩
    · exact Or.inl g
    · refine Or.inr ⟨zs, zx, zy, a1, a2, a3, a4, ?_⟩
      rw [g3 zs zx zy a1]
      exact ⟨htb _ a5, a6⟩
theorem m_imageL (hG : GW N P) {k zo zn : Nat} (hidx : nI 1160 * nI (k + 1) = nI zo) (ho1 : 1160 ≤ zo) (ho2 : zo + 1160 ≤ 4640) (hn : 3000 < zn) : ∃ M, p_it (B_X12_image_20 N P 67 (nI k)) zn (nI 0, I) = some M ∧ (∀ zq, zq ≠ 68 → M zq = I zq) ∧ (∀ zj, zj < 1160 → M 68 (zj + zo) = I 68 zj) ∧ ∀ zj, (zj < zo ∨ zo + 1160 ≤ zj) → M 68 zj = I 68 zj := by
  refine p_loopI (B := B_X12_image_20 N P 67 (nI k)) (zJ := fun zi (zs : Int32 × pI) => zs.1 = nI zi ∧ (∀ zq, zq ≠ 68 → zs.2 zq = I zq) ∧ (∀ zj, zj < zi → zs.2 68 (zj + zo) = I 68 zj) ∧ ∀ zj, (zj < zo ∨ zo + zi ≤ zj) → zs.2 68 zj = I 68 zj) (zE := fun (M : pI) => (∀ zq, zq ≠ 68 → M zq = I zq) ∧ (∀ zj, zj < 1160 → M 68 (zj + zo) = I 68 zj) ∧ ∀ zj, (zj < zo ∨ zo + 1160 ≤ zj) → M 68 zj = I 68 zj) (zm := 1160) (zn := zn) (by omega) ?_ ?_ (nI 0, I) ⟨rfl, fun _ _ => rfl, fun zj hj => absurd hj (Nat.not_lt_zero zj), fun _ _ => rfl⟩
  · rintro zi hi ⟨zs, X⟩ ⟨e1, e2, e3, e4⟩
    dsimp only at e1 e2 e3 e4
    subst e1
    left
    have hc : ¬ nI 1160 ≤ nI zi := nI_ge hi (by decide)
    have ib : p_ib N 68 (nI (zo + zi)) = true := ib_68 hG (by omega)
    have ic : (nI (zo + zi)).toNatClampNeg = zo + zi := nI_clamp (by omega)
    have ib2 : p_ib N 68 (nI zi) = true := ib_68 hG (by omega)
    have ic2 : (nI zi).toNatClampNeg = zi := nI_clamp (by omega)
    have ev : X 68 zi = I 68 zi := e4 _ (by omega)
    refine ⟨(nI (zi + 1), p_u X 68 (zo + zi) (I 68 zi)), ⟨rfl, fun zq hq => by dsimp only; rw [p_u_ne hq, e2 zq hq], fun zj hj => ?_, fun zj hj => by dsimp only; rw [p_u_nk (by omega), e4 zj (by omega)]⟩, fun zrec => ?_⟩
    · dsimp only
      by_cases hz : zj = zi
      · rw [hz, Nat.add_comm zi zo, p_u_self]
      · rw [p_u_nk (by omega), e3 zj (by omega)]
    · unfold B_X12_image_20
      simp only [if_neg hc, gp_67_0 hG, Option.bind_some, nI_add, hidx, n_ck ib, ic, n_ck ib2, ic2, ev, n_let]
  · rintro ⟨zs, X⟩ ⟨e1, e2, e3, e4⟩
    dsimp only at e1 e2 e3 e4
    subst e1
    refine ⟨X, ⟨e2, e3, e4⟩, fun zrec => ?_⟩
    unfold B_X12_image_20
    simp only [if_pos (Int32.le_refl (nI 1160))]
end Image
theorem sp_image {n zk : Nat} (hn : 3000 < n) : Sp_image n (Ivv zk) (Ivv (zk + 1)) := by
  intro N I L P h x1
  have h : IV zk N P I := h
  have hG := h.gw
  have h86 : 86 ≤ N.1 := hG.2.1
  have hl20 : (N.2 20).2 = 3 := by rw [gn_20 hG]
  have hW := hG.1
  have t67 : p_tp N 67 15 := ⟨by omega, by rw [gn_67 hG]⟩
  rcases pk_ix x1 (n := 3) (by omega) with g | g | ⟨k, hk3, e⟩
  · refine ⟨(nI 0, N, I, L, P), (nI 0, I), ?_, ?_, rfl, hW, t67, h.up⟩
    · unfold f_X11_image
      rw [if_pos g]
    · unfold f_X12_image
      simp only [q_isIn02 (Or.inl g), Option.bind_some, bI_iff]
  · have g1 : ¬ x1 < 0 := fun f => by
      have a1 := Int32.lt_iff_toInt_lt.mp f
      have a2 := Int32.le_iff_toInt_le.mp g
      have a3 : (0 : Int32).toInt = 0 := rfl
      have a4 : (nI 3).toInt = 3 := by decide
      omega
    have g2 : ¬ x1 < nI (N.2 20).2 := by rw [hl20]; exact Int32.not_lt.mpr g
    refine ⟨(nI 0, N, I, L, P), (nI 0, I), ?_, ?_, rfl, hW, t67, h.up⟩
    · unfold f_X11_image
      simp only [if_neg g1, gp_0_1 hG, Option.bind_some, if_neg g2]
    · unfold f_X12_image
      simp only [q_isIn02 (Or.inr g), Option.bind_some, bI_iff]
  · subst e
    have g1 : ¬ nI k < 0 := nI_pos (by omega)
    have g2 : nI k < nI (N.2 20).2 := by rw [hl20]; exact nI_lt hk3 (by decide)
    have ib20 : p_ib N 20 (nI k) = true := n_ib (gn_20 hG) hk3 (by decide)
    have ic : (nI k).toNatClampNeg = k := nI_clamp (by omega)
    rcases h.2.2.1.1 k hk3 with ⟨p1, p2⟩ | ⟨zj, p1, p2, p3, p4⟩
    · -- a new one
      obtain ⟨b, hb⟩ : ∃ b, b = N.1 := ⟨_, rfl⟩
      have hcnt := h.2.2.1.2.2
      have him : ∀ l, q_im P l ≤ 1 := fun l => by unfold q_im; split <;> omega
      have hb9 : b < 900000 := by
        have := him 0; have := him 1; have := him 2
        omega
      have hz0 : z_st b N I P 0 (p_nw N I L P (10, 0)).1 (p_nw N I L P (10, 0)).2.1 (p_nw N I L P (10, 0)).2.2.2 := by
        refine ⟨by rw [hb]; rfl, fun q hq => ⟨?_, ?_, ?_⟩, ?_, fun i hi => absurd hi (Nat.not_lt_zero i)⟩
        · show (if q = N.1 then (10, 0) else N.2 q) = _
          rw [if_neg (by omega)]
        · exact p_z_ne (by omega)
        · exact p_z_ne (by omega)
        · show (if b = N.1 then (10, 0) else N.2 b) = _
          rw [if_pos hb]
      obtain ⟨q, e1, e2, e3, e4, e5, e6⟩ := c_sinit (L := (p_nw N I L P (10, 0)).2.2.1) hb9 hz0
      have hWw : WT (p_nw N I L P (10, 0)).1 (p_nw N I L P (10, 0)).2.2.2 := p_nww rfl hW
      have hTw : p_tp (p_nw N I L P (10, 0)).1 b 10 := by rw [hb]; exact p_nws (N := N) (I := I) (L := L) (P := P) (S := (10, 0)) rfl
      have hg := g_X7_init hWw hTw e1
      have hTb : p_tp q.1 b 10 := hg.2 _ _ hTw
      have hT20 : p_tp q.1 20 2 := ⟨by omega, by rw [(e3 20 (by omega)).1, gn_20 hG]⟩
      have hWn : WT q.1 (p_u q.2.2.2 20 k (some b)) := hg.1.put2 hT20 hTb
      have q01 : q.2.2.2 0 1 = some 20 := by rw [(e3 0 (by omega)).2.2]; exact gp_0_1 hG
      have ibq : p_ib q.1 20 (nI k) = true := n_ib (zt := 2) (zn := 3) (by rw [(e3 20 (by omega)).1]; exact gn_20 hG) hk3 (by decide)
      have hP' : ∀ x, x < N.1 → x ≠ 20 → p_u q.2.2.2 20 k (some b) x = P x := fun x a c => by rw [p_u_ne c, (e3 x (by omega)).2.2]
      have q00 : p_u q.2.2.2 20 k (some b) 0 0 = some 1 := by rw [hP' 0 (by omega) (by decide)]; exact gp_0_0 hG
      have hptr1 : q_ptr (p_u q.2.2.2 20 k (some b)) 1 := fun j hj => by rw [hP' 1 (by omega) (by decide)]; exact q_ptr1 hG j hj
      have hptrb : q_ptr (p_u q.2.2.2 20 k (some b)) b := fun j hj => by rw [p_u_ne (by omega)]; exact (e5 j hj).1
      have htbb : q_tbs q.1 (p_u q.2.2.2 20 k (some b)) q.2.1 b := fun j hj => by
        obtain ⟨r, a1, a2, a3⟩ := e6 j hj
        exact ⟨r, a1, by rw [p_u_ne (by omega)]; exact a2, a3⟩
      have hmv1 : q_mvd N q.1 P (p_u q.2.2.2 20 k (some b)) I q.2.1 1 1 := q_mvd_same (fun x a c => (e3 x (by omega)).1) (fun x a c => hP' x (by omega) (by omega)) (fun x a c => (e3 x (by omega)).2.1)
      have htb1 : q_tbs q.1 (p_u q.2.2.2 20 k (some b)) q.2.1 1 := fun j hj => by
        obtain ⟨r, hr⟩ := h.sr.tbl j hj
        exact ⟨r, (hmv1 j hj r hr).1⟩
      obtain ⟨J, j1, j2, j3, j4⟩ := c_copy (N := q.1) (I := q.2.1) hptr1 hptrb htb1 htbb (b := 1) (b2 := b) (by omega)
      have hGq : GW q.1 (p_u q.2.2.2 20 k (some b)) := hG.grow hWn (by omega) (fun x hx => (e3 x (by omega)).1) hP'
      have hJI : ∀ x, (x < b ∨ b + 19 ≤ x) → x < N.1 → J x = I x := fun x a c => by rw [j2 x a, (e3 x (by omega)).2.1]
      obtain ⟨M, m1, m2, m3, m4⟩ := m_imageL (I := p_u J 69 k (nI 1)) (k := k) (zo := 1160 * (k + 1)) hGq (pk_mul _ _) (by omega) (by omega) hn
      have ib69 : p_ib q.1 69 (nI k) = true := n_ib (gn_69 hGq) hk3 (by decide)
      refine ⟨(nI 1, q.1, J, q.2.2.1, p_u q.2.2.2 20 k (some b)), (nI 1, M), ?_, ?_, rfl, hWn, ⟨by dsimp only; omega, by dsimp only; rw [gn_67 hGq]⟩, ?_⟩
      · unfold f_X11_image
        simp only [if_neg g1, gp_0_1 hG, Option.bind_some, if_pos g2, n_ck ib20, ic, p1, n_let]
        show p_ck (decide (N.1 < 1000000)) _ = _
        rw [n_ck (decide_eq_true (show N.1 < 1000000 by omega)), ← hb, e1, Option.bind_some, q01, Option.bind_some, n_ck ibq, q00, Option.bind_some, j1, Option.bind_some]
      · unfold f_X12_image
        simp only [q_isIn02k hk3, Option.bind_some, bI_ift, gp_67_1 hGq, n_ck ib69, ic, n_let, m1]
      · show IV (zk + 1) q.1 (p_u q.2.2.2 20 k (some b)) M
        refine IV.up (IV.img h hk3 rfl hWn (by omega) (fun x hx => (e3 x (by omega)).1) hP' (fun l hl => by rw [p_u_nk hl, (e3 20 (by omega)).2.2]) p_u_self ⟨_, by rw [hb]; exact hcnt⟩ ?_ hJI ?_ ?_ ?_ ?_ (fun x a c => by rw [m2 x a, p_u_ne c]) (by rw [m2 69 (by decide), p_u_self]) (fun l hl => by rw [m2 69 (by decide), p_u_nk hl]) (fun zi a => by rw [m3 zi a, p_u_ne (by decide)]) (fun zi a => by rw [m4 zi a, p_u_ne (by decide)]))
        · refine ⟨by omega, e4, fun j hj => ?_⟩
          rw [p_u_ne (by omega), p_u_ne (by omega)]
          exact e5 j hj
        · intro j hj r hr
          obtain ⟨a1, a2⟩ := hmv1 j hj r hr
          obtain ⟨b1, b2⟩ := j3 j hj r a1
          exact ⟨b1, fun i hi => by rw [b2 i hi, a2 i hi]⟩
        · intro x a c
          rw [j4 x a c, (e3 1 (by omega)).2.1]
        · intro l hl hlk e
          rcases h.2.2.1.1 l hl with ⟨w1, _⟩ | ⟨zw, w1, _, w3, _⟩
          · rw [w1] at e; cases e
          · rw [w1] at e
            cases e
            have := w3.1
            omega
        · have hI : ∀ l, l ≠ k → q_im (p_u q.2.2.2 20 k (some b)) l = q_im P l := fun l hl => by
            unfold q_im
            rw [p_u_nk hl, (e3 20 (by omega)).2.2]
          have hIk : q_im (p_u q.2.2.2 20 k (some b)) k = 1 := by
            unfold q_im
            rw [p_u_self, if_neg (by intro e; cases e)]
          have hIk0 : q_im P k = 0 := by
            unfold q_im
            rw [p1, if_pos rfl]
          have h3 : k = 0 ∨ k = 1 ∨ k = 2 := by omega
          have hbc : b = 86 + 19 * (q_im P 0 + q_im P 1 + q_im P 2) := hb.trans hcnt
          rw [e2]
          rcases h3 with h3 | h3 | h3 <;> subst h3
          · rw [hI 1 (by decide), hI 2 (by decide), hIk]; omega
          · rw [hI 0 (by decide), hI 2 (by decide), hIk]; omega
          · rw [hI 0 (by decide), hI 1 (by decide), hIk]; omega
    · -- one that was there
      have hptr : q_ptr P (86 + 19 * zj) := fun j hj => (p3.2.2 j hj).1
      have hp31 := p3.1
      obtain ⟨J, j1, j2, j3, j4⟩ := c_copy (N := N) (I := I) (q_ptr1 hG) hptr h.sr.tbl p4.tbl (b := 1) (b2 := 86 + 19 * zj) (by omega)
      obtain ⟨M, m1, m2, m3, m4⟩ := m_imageL (I := p_u J 69 k (nI 1)) (k := k) (zo := 1160 * (k + 1)) hG (pk_mul _ _) (by omega) (by omega) hn
      have ib69 : p_ib N 69 (nI k) = true := n_ib (gn_69 hG) hk3 (by decide)
      refine ⟨(nI 1, N, J, L, P), (nI 1, M), ?_, ?_, rfl, hW, t67, ?_⟩
      · unfold f_X11_image
        simp only [if_neg g1, gp_0_1 hG, Option.bind_some, if_pos g2, n_ck ib20, ic, p1]
        show (Option.bind (P 0 0) fun q39 => Option.bind (f_X7_copy N I P (86 + 19 * zj) q39) fun q42 => some (nI 1, N, q42, L, P)) = _
        rw [gp_0_0 hG, Option.bind_some, j1, Option.bind_some]
      · unfold f_X12_image
        simp only [q_isIn02k hk3, Option.bind_some, bI_ift, gp_67_1 hG, n_ck ib69, ic, n_let, m1]
      · show IV (zk + 1) N P M
        refine IV.up (IV.img h hk3 rfl hW (Nat.le_refl _) (fun _ _ => rfl) (fun _ _ _ => rfl) (fun _ _ => rfl) p1 ⟨zj, rfl⟩ p3 (fun x a _ => j2 x a) j3 j4 (fun l hl hlk e => hlk (h.2.2.1.2.1 l k _ hl hk3 e p1)) h.2.2.1.2.2 (fun x a c => by rw [m2 x a, p_u_ne c]) (by rw [m2 69 (by decide), p_u_self]) (fun l hl => by rw [m2 69 (by decide), p_u_nk hl]) (fun zi a => by rw [m3 zi a, p_u_ne (by decide)]) (fun zi a => by rw [m4 zi a, p_u_ne (by decide)]))
