/-! the law in the reference; why -/
section Court2
variable {N : pN} {P : pR} {I J : pI} {L : pL} {zk : Nat}
theorem m_isAlone (h : mK zk N P I J) {zs zn : Nat} (hs : zs < nv (I 68 1)) (hn : 200 < zn) : f_X12_isAlone zn N J P 67 (nI zs) = some (bI (q_al (I 68) zs)) := by
  have hG := h.gw
  have r1 := h.n1
  have h6 := r1.2
  have i1 : p_ib N 68 (nI 1) = true := ib_68 hG (by decide)
  have k1 : (nI 1).toNatClampNeg = 1 := by decide
  have hloop := p_loopI (B := B_X12_isAlone_4 N J P 67 (nI zs)) (zJ := fun zj (zc : Int32 × Int32) => zc = (bI (q_fold (fun t b => b && q_al1 (I 68) zs t) zj true), nI zj)) (zE := fun zt => zt = bI (q_al (I 68) zs)) (zm := nv (I 68 1)) (zn := zn) (by omega) ?_ ?_ (nI 1, nI 0) rfl
  · obtain ⟨zt, k1, k2⟩ := hloop
    unfold f_X12_isAlone
    rw [k1, Option.bind_some, k2]
    exact n_ck (bI_ck _)
  · rintro zj hj _ rfl
    left
    have hc : ¬ J 68 1 ≤ nI zj := by rw [h.2.e68, r1.1]; exact nI_ge hj (by omega)
    refine ⟨_, rfl, fun zrec => ?_⟩
    show _ = zrec (bI (q_fold (fun t b => b && q_al1 (I 68) zs t) zj true && q_al1 (I 68) zs zj), nI (zj + 1))
    unfold B_X12_isAlone_4
    cases hb : q_fold (fun t b => b && q_al1 (I 68) zs t) zj true with
    | false => simp only [gp_67_0 hG, Option.bind_some, n_ck i1, k1, if_neg hc, bI_iff, Bool.false_and, nI_add]; rfl
    | true =>
      rw [Bool.true_and]
      unfold q_al1
      by_cases hjs : zj = zs
      · have hjs2 : nI zj = nI zs := by rw [hjs]
        rw [decide_eq_true hjs, Bool.true_or]
        simp only [gp_67_0 hG, Option.bind_some, n_ck i1, k1, if_neg hc, bI_ift, if_pos hjs2, nI_add]
        rfl
      · have hjs2 : ¬ nI zj = nI zs := fun e => hjs ((nI_eq (by omega) (by omega)).mp e)
        rw [decide_eq_false hjs, Bool.false_or]
        cases hst : q_st (I 68) (nI zj) with
        | false =>
          simp only [gp_67_0 hG, Option.bind_some, n_ck i1, k1, if_neg hc, bI_ift, if_neg hjs2, h.sees, hst, bI_iff, nI_add]
          rfl
        | true =>
          have s1 := h.sndr (zs := zj) (zj := 2) (by omega) (by decide)
          have s2 := h.sndr (zs := zs) (zj := 2) (by omega) (by decide)
          by_cases hcol : I 68 (120 + 8 * zj + 2) = I 68 (120 + 8 * zs + 2)
          · rw [decide_eq_true hcol]
            simp only [gp_67_0 hG, Option.bind_some, n_ck i1, k1, if_neg hc, bI_ift, if_neg hjs2, h.sees, hst, s1, s2, if_pos hcol, nI_add]
            rfl
          · rw [decide_eq_false hcol]
            simp only [gp_67_0 hG, Option.bind_some, n_ck i1, k1, if_neg hc, bI_ift, if_neg hjs2, h.sees, hst, s1, s2, if_neg hcol, nI_add]
            rfl
  · rintro _ rfl
    have hc : J 68 1 ≤ nI (nv (I 68 1)) := by rw [h.2.e68, ← r1.1]; exact Int32.le_refl _
    refine ⟨_, rfl, fun zrec => ?_⟩
    unfold B_X12_isAlone_4
    simp only [gp_67_0 hG, Option.bind_some, n_ck i1, k1, if_pos hc]
    rfl
theorem m_greatest (h : mK zk N P I J) {zs : Nat} (hs : zs < nv (I 68 1)) {zn : Nat} (hn : 200 < zn) : ∃ J2 K2, f_X12_greatest zn N J L P 67 (nI zs) = some (q_lou (I 68) zs, J2, K2) ∧ mK zk N P I J2 := by
  have hG := h.gw
  have r3 : rg (I 68 3) 8 := by rw [← h.2.e68]; exact h.1.n3
  have h3 := r3.2
  have i3 : p_ib N 68 (nI 3) = true := ib_68 hG (by decide)
  have k3 : (nI 3).toNatClampNeg = 3 := by decide
  have hloop := p_loopI (B := B_X12_greatest_4 zn N P 67 (nI zs)) (zJ := fun zj (zc : Int32 × Int32 × pI × pL) => zc.1 = q_fold (q_grf (I 68) zs) zj (nI 0) ∧ zc.2.1 = nI zj ∧ mK zk N P I zc.2.2.1) (zE := fun (zt : Int32 × pI × pL) => zt.1 = q_gr (I 68) zs ∧ mK zk N P I zt.2.1) (zm := nv (I 68 3)) (zn := zn) (by omega) ?_ ?_ (nI 0, nI 0, J, L) ⟨rfl, rfl, h⟩
  · obtain ⟨⟨zt, J2, K2⟩, k1, k2, k3⟩ := hloop
    dsimp only at k2 k3
    subst k2
    refine ⟨J2, K2, ?_, k3⟩
    unfold f_X12_greatest q_lou
    rw [k1, Option.bind_some]
    dsimp only
    split <;> rfl
  · rintro zj hj ⟨za, zi, J, K⟩ ⟨e0, e1, e3⟩
    dsimp only at e0 e1 e3
    subst e1
    left
    have hc : ¬ J 68 3 ≤ nI zj := by rw [e3.2.e68, r3.1]; exact nI_ge hj (by omega)
    have hcn := e3.sr.rn.2.2 zj (by rw [e3.2.e68]; exact hj)
    have c0 : J 68 (202 + 2 * zj) = nI (nv (I 68 (202 + 2 * zj))) ∧ nv (I 68 (202 + 2 * zj)) ≤ 20 := by
      have h8 : rg (J 68 (202 + 2 * zj)) 20 := (hcn 0 (by decide)).2
      rw [e3.2.e68] at h8 ⊢
      exact h8
    have c1 : J 68 (202 + 2 * zj + 1) = nI (nv (I 68 (202 + 2 * zj + 1))) ∧ nv (I 68 (202 + 2 * zj + 1)) ≤ 20 := by
      have h8 : rg (J 68 (202 + 2 * zj + 1)) 20 := (hcn 1 (by decide)).2
      rw [e3.2.e68] at h8 ⊢
      exact h8
    have ia0 : nI 202 + nI 2 * nI zj = nI (202 + 2 * zj) := by rw [pk_mul, nI_add]
    have ia1 : nI (202 + 2 * zj) + nI 1 = nI (202 + 2 * zj + 1) := nI_add _ _
    have ib0 : p_ib N 68 (nI (202 + 2 * zj)) = true := ib_68 hG (by omega)
    have ib1 : p_ib N 68 (nI (202 + 2 * zj + 1)) = true := ib_68 hG (by omega)
    have ic0 : (nI (202 + 2 * zj)).toNatClampNeg = 202 + 2 * zj := nI_clamp (by omega)
    have ic1 : (nI (202 + 2 * zj + 1)).toNatClampNeg = 202 + 2 * zj + 1 := nI_clamp (by omega)
    obtain ⟨J2, K2, j1, j2, j3⟩ := e3.sg (L := K) hs c0.2 c1.2 hn
    refine ⟨(q_grf (I 68) zs zj za, nI (zj + 1), J2, K2), ⟨by dsimp only; rw [e0]; rfl, rfl, j2⟩, fun zrec => ?_⟩
    unfold B_X12_greatest_4
    simp only [gp_67_0 hG, Option.bind_some, n_ck i3, k3, if_neg hc, ia0, ia1, n_ck ib0, n_ck ib1, ic0, ic1, c0.1, c1.1, j1, n_let, nI_add]
    rfl
  · rintro ⟨za, zi, J, K⟩ ⟨e0, e1, e3⟩
    dsimp only at e0 e1 e3
    subst e1
    have hc : J 68 3 ≤ nI (nv (I 68 3)) := by rw [e3.2.e68, ← r3.1]; exact Int32.le_refl _
    refine ⟨(za, J, K), ⟨e0, e3⟩, fun zrec => ?_⟩
    unfold B_X12_greatest_4
    simp only [gp_67_0 hG, Option.bind_some, n_ck i3, k3, if_pos hc]
theorem m_asked (h : mK zk N P I J) {zs za : Nat} (hs : zs < nv (I 68 1)) (h7 : za ≤ 6) {zn : Nat} (hn : 200 < zn) (hour : Int32) : ∃ J2 K2, f_X12_asked zn N J L P 67 (nI (10 + za)) (nI zs) hour = some (if za = 0 then bI (q_al (I 68) zs) else q_val (I 68) za zs hour, J2, K2) ∧ mK zk N P I J2 := by
  have h6 := h.n1.2
  have sn : ∀ zj, zj < 8 → f_X12_senderOf N J P 67 (nI zs) (nI zj) = some (I 68 (120 + 8 * zs + zj)) := fun zj hj => h.sndr (by omega) hj
  have h9 : za = 0 ∨ za = 1 ∨ za = 2 ∨ za = 3 ∨ za = 4 ∨ za = 5 ∨ za = 6 := by omega
  rcases h9 with h9 | h9 | h9 | h9 | h9 | h9 | h9 <;> subst h9
  · refine ⟨J, L, ?_, h⟩
    unfold f_X12_asked
    simp only [Nat.add_zero, if_true, m_isAlone h hs hn, Option.bind_some]
    cases q_al (I 68) zs <;> rfl
  · refine ⟨J, L, ?_, h⟩
    unfold f_X12_asked q_val
    simp only [Nat.reduceAdd, show ¬ nI 11 = nI 10 from by decide, show ¬ (1 : Nat) = 0 from by decide, if_false, if_true, sn 2 (by decide), Option.bind_some]
  · refine ⟨J, L, ?_, h⟩
    unfold f_X12_asked q_val
    simp only [Nat.reduceAdd, show ¬ nI 12 = nI 10 from by decide, show ¬ nI 12 = nI 11 from by decide, show ¬ (2 : Nat) = 0 from by decide, show ¬ (2 : Nat) = 1 from by decide, if_false, if_true, sn 3 (by decide), Option.bind_some]
  · refine ⟨J, L, ?_, h⟩
    unfold f_X12_asked q_val
    simp only [Nat.reduceAdd, show ¬ nI 13 = nI 10 from by decide, show ¬ nI 13 = nI 11 from by decide, show ¬ nI 13 = nI 12 from by decide, show ¬ (3 : Nat) = 0 from by decide, show ¬ (3 : Nat) = 1 from by decide, show ¬ (3 : Nat) = 2 from by decide, if_false, if_true, sn 0 (by decide), Option.bind_some]
  · refine ⟨J, L, ?_, h⟩
    unfold f_X12_asked q_val
    simp only [Nat.reduceAdd, show ¬ nI 14 = nI 10 from by decide, show ¬ nI 14 = nI 11 from by decide, show ¬ nI 14 = nI 12 from by decide, show ¬ nI 14 = nI 13 from by decide, show ¬ (4 : Nat) = 0 from by decide, show ¬ (4 : Nat) = 1 from by decide, show ¬ (4 : Nat) = 2 from by decide, show ¬ (4 : Nat) = 3 from by decide, if_false, if_true, sn 1 (by decide), Option.bind_some]
  · refine ⟨J, L, ?_, h⟩
    unfold f_X12_asked q_val
    simp only [Nat.reduceAdd, show ¬ nI 15 = nI 10 from by decide, show ¬ nI 15 = nI 11 from by decide, show ¬ nI 15 = nI 12 from by decide, show ¬ nI 15 = nI 13 from by decide, show ¬ nI 15 = nI 14 from by decide, show ¬ (5 : Nat) = 0 from by decide, show ¬ (5 : Nat) = 1 from by decide, show ¬ (5 : Nat) = 2 from by decide, show ¬ (5 : Nat) = 3 from by decide, show ¬ (5 : Nat) = 4 from by decide, if_false, if_true]
  · obtain ⟨J2, K2, j1, j2⟩ := m_greatest (L := L) h hs hn
    refine ⟨J2, K2, ?_, j2⟩
    unfold f_X12_asked q_val
    simp only [Nat.reduceAdd, show ¬ nI 16 = nI 10 from by decide, show ¬ nI 16 = nI 11 from by decide, show ¬ nI 16 = nI 12 from by decide, show ¬ nI 16 = nI 13 from by decide, show ¬ nI 16 = nI 14 from by decide, show ¬ nI 16 = nI 15 from by decide, show ¬ (6 : Nat) = 0 from by decide, show ¬ (6 : Nat) = 1 from by decide, show ¬ (6 : Nat) = 2 from by decide, show ¬ (6 : Nat) = 3 from by decide, show ¬ (6 : Nat) = 4 from by decide, show ¬ (6 : Nat) = 5 from by decide, if_false, j1, Option.bind_some]
theorem m_holds (h : mK zk N P I J) {zl zs : Nat} (hl : zl < nv (I 68 6)) (hs : zs < nv (I 68 1)) {zn : Nat} (hn : 200 < zn) (hour : Int32) : ∃ J2 K2, f_X12_holds zn N J L P 67 (nI (340 + 20 * zl)) (nI zs) hour = some (bI (q_hl (I 68) zl zs hour), J2, K2) ∧ mK zk N P I J2 := by
  have hG := h.gw
  have h16 : nv (I 68 6) ≤ 16 := by rw [← h.2.e68]; exact h.sr.rl.1.2
  have hlaw := sr_law h.sr (zl := zl) (by rw [h.2.e68]; exact hl)
  rw [h.2.e68] at hlaw
  obtain ⟨d1, _, _, d4⟩ := hlaw
  have h4 := d1.2
  have il : p_ib N 68 (nI (340 + 20 * zl)) = true := ib_68 hG (by omega)
  have kl : (nI (340 + 20 * zl)).toNatClampNeg = 340 + 20 * zl := nI_clamp (by omega)
  have hloop := p_loopI (B := B_X12_holds_6 zn N P 67 (nI (340 + 20 * zl)) (nI zs) hour) (zJ := fun zj (zc : Int32 × Int32 × pI × pL) => zc.1 = bI (q_fold (fun t b => b && q_hl1 (I 68) zl zs hour t) zj true) ∧ zc.2.1 = nI zj ∧ mK zk N P I zc.2.2.1) (zE := fun (zt : Int32 × pI × pL) => zt.1 = bI (q_hl (I 68) zl zs hour) ∧ mK zk N P I zt.2.1) (zm := nv (I 68 (340 + 20 * zl + 0))) (zn := zn) (by omega) ?_ ?_ (nI 1, nI 0, J, L) ⟨rfl, rfl, h⟩
  · obtain ⟨⟨zt, J2, K2⟩, k1, k2, k3⟩ := hloop
    dsimp only at k2 k3
    subst k2
    refine ⟨J2, K2, ?_, k3⟩
    unfold f_X12_holds
    rw [k1, Option.bind_some]
    exact n_ck (bI_ck _)
  · rintro zj hj ⟨za, zi, J, K⟩ ⟨e0, e1, e3⟩
    dsimp only at e0 e1 e3
    subst e1
    have hc : ¬ J 68 (340 + 20 * zl) ≤ nI zj := by
      rw [e3.2.e68]
      have h9 := d1.1
      rw [show I 68 (340 + 20 * zl) = nI (nv (I 68 (340 + 20 * zl + 0))) from h9]
      exact nI_ge hj (by omega)
    have hq : q_fold (fun t b => b && q_hl1 (I 68) zl zs hour t) (zj + 1) true = (q_fold (fun t b => b && q_hl1 (I 68) zl zs hour t) zj true && q_hl1 (I 68) zl zs hour zj) := rfl
    cases hb : q_fold (fun t b => b && q_hl1 (I 68) zl zs hour t) zj true with
    | false =>
      rw [hb] at e0
      right
      refine ⟨(za, J, K), ⟨?_, e3⟩, fun zrec => ?_⟩
      · show za = bI (q_hl (I 68) zl zs hour)
        have hz : q_fold (fun t b => b && q_hl1 (I 68) zl zs hour t) (zj + (nv (I 68 (340 + 20 * zl + 0)) - zj)) true = false := by
          generalize nv (I 68 (340 + 20 * zl + 0)) - zj = zd
          induction zd with
          | zero => exact hb
          | succ zd ih => show (q_fold (fun t b => b && q_hl1 (I 68) zl zs hour t) (zj + zd) true && _) = false; rw [ih, Bool.false_and]
        rw [show zj + (nv (I 68 (340 + 20 * zl + 0)) - zj) = nv (I 68 (340 + 20 * zl + 0)) by omega] at hz
        unfold q_hl
        rw [hz]; exact e0
      · subst e0
        unfold B_X12_holds_6
        simp only [gp_67_0 hG, Option.bind_some, n_ck il, kl, if_neg hc, bI_iff]
    | true =>
      rw [hb] at e0
      rw [hb, Bool.true_and] at hq
      subst e0
      left
      obtain ⟨t0, t1, zv, t2, t3, t4, t5⟩ := d4 zj hj
      have t4 : q_r (I 68) zl zj 1 = nI (10 + zv) := t4
      obtain ⟨J2, K2, j1, j2⟩ := m_asked (L := K) e3 hs t2 hn hour
      have ia : nI (340 + 20 * zl) + nI 1 + nI 4 * nI zj = nI (340 + 20 * zl + (1 + 4 * zj)) := by rw [pk_mul, nI_add, nI_add, Nat.add_assoc]
      have ib : ∀ zm, zm < 4 → p_ib N 68 (nI (340 + 20 * zl + (1 + 4 * zj) + zm)) = true := fun zm hm => ib_68 hG (by omega)
      have ic : ∀ zm, zm < 4 → (nI (340 + 20 * zl + (1 + 4 * zj) + zm)).toNatClampNeg = 340 + 20 * zl + (1 + 4 * zj) + zm := fun zm hm => nI_clamp (by omega)
      have er : ∀ (X : pI), X 68 = I 68 → ∀ zm, X 68 (340 + 20 * zl + (1 + 4 * zj) + zm) = q_r (I 68) zl zj zm := fun X hX zm => by
        unfold q_r
        rw [hX, Nat.add_assoc]
      have env : nv (q_r (I 68) zl zj 1) = 10 + zv := by rw [t4]; exact nI_clamp (by omega)
      have et : (if q_r (I 68) zl zj 0 = nI 1 then nI 1 else nI 0) = bI (decide (q_r (I 68) zl zj 0 = nI 1)) := by
        by_cases g : q_r (I 68) zl zj 0 = nI 1
        · rw [if_pos g, decide_eq_true g]; rfl
        · rw [if_neg g, decide_eq_false g]; rfl
      have eb : ∀ b1 b2 : Bool, (if bI b1 = bI b2 then nI 0 else nI 1) = bI (b1 != b2) := by decide
      have hv : (if q_r (I 68) zl zj 2 = nI 60 then (if q_r (I 68) zl zj 3 ≤ (if zv = 0 then bI (q_al (I 68) zs) else q_val (I 68) zv zs hour) then some (nI 0) else some (nI 1)) else (if q_r (I 68) zl zj 2 = nI 62 then (if (if zv = 0 then bI (q_al (I 68) zs) else q_val (I 68) zv zs hour) ≤ q_r (I 68) zl zj 3 then some (nI 0) else some (nI 1)) else (if (if zv = 0 then bI (q_al (I 68) zs) else q_val (I 68) zv zs hour) = q_r (I 68) zl zj 3 then some (nI 1) else some (nI 0)))) = some (bI (q_tst (I 68) zl zj zs hour)) := by
        rw [q_cmp_c]
        unfold q_tst
        rw [env]
        rcases t5 with ⟨t6, t7, t8⟩ | ⟨t6, _⟩
        · subst t6
          have t7 : q_r (I 68) zl zj 2 = nI 61 := t7
          have t8 : q_r (I 68) zl zj 3 = nI 1 := t8
          rw [if_pos rfl, if_pos rfl, t7, t8]
          cases q_al (I 68) zs <;> decide
        · rw [if_neg (show ¬ zv = 0 by omega), if_neg (show ¬ 10 + zv = 10 by omega), Nat.add_sub_cancel_left]
      refine ⟨(bI (q_hl1 (I 68) zl zs hour zj), nI (zj + 1), J2, K2), ⟨by rw [hq], rfl, j2⟩, fun zrec => ?_⟩
      have f0 := er J2 j2.2.e68
      have fJ := er J e3.2.e68
      unfold B_X12_holds_6
      simp only [gp_67_0 hG, Option.bind_some, n_ck il, kl, if_neg hc, bI_ift, n_let, ia]
      rw [show nI (340 + 20 * zl + (1 + 4 * zj)) = nI (340 + 20 * zl + (1 + 4 * zj) + 0) from rfl]
      simp only [nI_add, Nat.add_zero, n_ck (ib 1 (by decide)), n_ck (ib 2 (by decide)), n_ck (ib 3 (by decide)), ic 1 (by decide), ic 2 (by decide), ic 3 (by decide), fJ 1, t4, j1, Option.bind_some, f0 2, f0 3, hv]
      have ib0 := ib 0 (by decide)
      have ic0 := ic 0 (by decide)
      have f00 := f0 0
      rw [Nat.add_zero] at ib0 ic0 f00
      simp only [n_ck ib0, ic0, f00, et, eb]
      rfl
  · rintro ⟨za, zi, J, K⟩ ⟨e0, e1, e3⟩
    dsimp only at e0 e1 e3
    subst e1
    have hc : J 68 (340 + 20 * zl) ≤ nI (nv (I 68 (340 + 20 * zl + 0))) := by
      rw [e3.2.e68, ← d1.1]
      exact Int32.le_refl _
    refine ⟨(za, J, K), ⟨e0, e3⟩, fun zrec => ?_⟩
    unfold B_X12_holds_6
    simp only [gp_67_0 hG, Option.bind_some, n_ck il, kl, if_pos hc]
theorem m_lineOf (h : mK zk N P I J) {zs : Nat} (hs : zs < nv (I 68 1)) {zn : Nat} (hn : 200 < zn) (hour : Int32) : ∃ J2 K2, f_X12_lineOf zn N J L P 67 (nI zs) hour = some (q_line (I 68) zs hour, J2, K2) ∧ mK zk N P I J2 := by
  have hG := h.gw
  have r6 : rg (I 68 6) 16 := by rw [← h.2.e68]; exact h.sr.rl.1
  have h16 := r6.2
  have i6 : p_ib N 68 (nI 6) = true := ib_68 hG (by decide)
  have k6 : (nI 6).toNatClampNeg = 6 := by decide
  have hloop := p_loopI (B := B_X12_lineOf_2 zn N P 67 (nI zs) hour) (zJ := fun zj (zc : Int32 × pI × pL) => zc.1 = nI zj ∧ mK zk N P I zc.2.1 ∧ q_line (I 68) zs hour = q_ln (I 68) zs hour (nv (I 68 6) - zj) zj) (zE := fun (zt : Int32 × pI × pL) => zt.1 = q_line (I 68) zs hour ∧ mK zk N P I zt.2.1) (zm := nv (I 68 6)) (zn := zn) (by omega) ?_ ?_ (nI 0, J, L) ⟨rfl, h, rfl⟩
  · obtain ⟨⟨zt, J2, K2⟩, k1, k2, k3⟩ := hloop
    dsimp only at k2 k3
    subst k2
    exact ⟨J2, K2, k1, k3⟩
  · rintro zj hj ⟨za, J, K⟩ ⟨e1, e3, e2⟩
    dsimp only at e1 e3 e2
    subst e1
    have hc : ¬ J 68 6 ≤ nI zj := by rw [e3.2.e68, r6.1]; exact nI_ge hj (by omega)
    rw [show nv (I 68 6) - zj = (nv (I 68 6) - (zj + 1)) + 1 by omega, q_ln_s] at e2
    have ia : nI 340 + nI 20 * nI zj = nI (340 + 20 * zj) := by rw [pk_mul, nI_add]
    obtain ⟨J2, K2, j1, j2⟩ := m_holds (L := K) e3 hj hs hn hour
    cases hq : q_hl (I 68) zj zs hour with
    | false =>
      rw [hq] at j1
      rw [hq, if_neg (by decide)] at e2
      left
      refine ⟨(nI (zj + 1), J2, K2), ⟨rfl, j2, e2⟩, fun zrec => ?_⟩
      unfold B_X12_lineOf_2
      simp only [gp_67_0 hG, Option.bind_some, n_ck i6, k6, if_neg hc, ia, j1, bI_iff, nI_add]
    | true =>
      rw [hq] at j1
      rw [hq, if_pos rfl] at e2
      right
      refine ⟨(nI zj, J2, K2), ⟨e2.symm, j2⟩, fun zrec => ?_⟩
      unfold B_X12_lineOf_2
      simp only [gp_67_0 hG, Option.bind_some, n_ck i6, k6, if_neg hc, ia, j1, bI_ift]
  · rintro ⟨za, J, K⟩ ⟨e1, e3, e2⟩
    dsimp only at e1 e3 e2
    subst e1
    rw [Nat.sub_self] at e2
    have hc : J 68 6 ≤ nI (nv (I 68 6)) := by rw [e3.2.e68, ← r6.1]; exact Int32.le_refl _
    refine ⟨(-1, J, K), ⟨e2.symm, e3⟩, fun zrec => ?_⟩
    unfold B_X12_lineOf_2
    simp only [gp_67_0 hG, Option.bind_some, n_ck i6, k6, if_pos hc]
end Court2
theorem sp_why {n zk : Nat} (hn : 200 < n) : Sp_why n (Ivv zk) (Ivv (zk + 1)) := by
  intro N I L P h x1 x2
  have h : IV zk N P I := h
  have hG := h.gw
  have h6 := h.n1.2
  have z0 : (nI 0 : Int32) = 0 := rfl
  cases h1 : q_st (I 68) x1 with
  | false =>
    refine ⟨(-1, I, L), (-1, I, L), ?_, ?_, rfl, h.up⟩
    · unfold f_X11_why
      simp only [gp_0_0 hG, Option.bind_some, c_st hG h.sr, h1, bI_iff]
    · unfold f_X12_why
      simp only [Option.bind_some, m_st hG h.sr, h1, bI_iff]
  | true =>
    by_cases g1 : x2 < 0
    · refine ⟨(-1, I, L), (-1, I, L), ?_, ?_, rfl, h.up⟩
      · unfold f_X11_why
        simp only [gp_0_0 hG, Option.bind_some, c_st hG h.sr, h1, bI_ift, if_pos g1]
      · unfold f_X12_why
        simp only [Option.bind_some, m_st hG h.sr, h1, bI_ift, m_isIn, z0, decide_eq_true g1, Bool.not_true, Bool.false_and, bI_iff]
    · by_cases g2 : x2 < nI 24
      · have g3 : ¬ nI 23 < x2 := fun g => by
          have := (n_le_lt (m := 23) (by decide)).mp g
          exact absurd g2 (Int32.not_lt.mpr this)
        rcases q_st_x h.n1 (by decide) x1 with ⟨e, _⟩ | ⟨za, ha, ea, _⟩
        · rw [h1] at e; cases e
        · obtain ⟨J, K, k1, k2, k3, _⟩ := c_hearSenders (L := L) (cK.rf h) hn
          obtain ⟨J2, K2, m1, m2⟩ := m_lineOf (L := K) (mK.rf k2.1) (zs := za) (by rw [k2.2.e68]; exact ha) hn x2
          rw [k2.2.e68] at m1
          have hl := c_lineFor hG k2.sr (zs := za) (zn := n) (by rw [k2.2.e68]; exact ha) (by rw [k2.2.e68]; exact k3 za (by omega) (by rw [← ea]; exact h1)) hn x2
          rw [k2.2.e68] at hl
          have hm1 : f_X12_seesSender N J P 67 x1 = some (bI true) := by rw [m_st hG k2.sr, k2.2.e68, h1]
          refine ⟨(q_line (I 68) za x2, J, K), (q_line (I 68) za x2, J2, K2), ?_, ?_, rfl, m2.1.up⟩
          · unfold f_X11_why
            simp only [gp_0_0 hG, gp_0_5 hG, Option.bind_some, c_st hG h.sr, h1, bI_ift, if_neg g1, if_pos g2, k1]
            rw [ea, hl, Option.bind_some]
          · unfold f_X12_why
            simp only [Option.bind_some, hm1, bI_ift, m_isIn, z0, decide_eq_false g1, decide_eq_false g3, Bool.not_false, Bool.true_and]
            rw [ea, m1, Option.bind_some]
      · have g3 : nI 23 < x2 := (n_le_lt (m := 23) (by decide)).mpr (Int32.not_lt.mp g2)
        refine ⟨(-1, I, L), (-1, I, L), ?_, ?_, rfl, h.up⟩
        · unfold f_X11_why
          simp only [gp_0_0 hG, Option.bind_some, c_st hG h.sr, h1, bI_ift, if_neg g1, if_neg g2]
        · unfold f_X12_why
          simp only [Option.bind_some, m_st hG h.sr, h1, bI_ift, m_isIn, decide_eq_true g3, Bool.not_true, Bool.and_false, bI_iff]
