/-! the walk -/
def q_wx (A : Nat → Int32) (k : Nat) : Nat := nv (A (220 + 2 * k))
def q_wy (A : Nat → Int32) (k : Nat) : Nat := nv (A (220 + 2 * k + 1))
def q_wkf (A : Nat → Int32) (k : Nat) (s : Int32 × Int32) : Int32 × Int32 := if s.1 < 0 then (q_bs A (q_wx A k) (q_wy A k), nI 0) else if q_hd A (nv s.1) (q_wx A k) (q_wy A k) = true then (if q_bs A (q_wx A k) (q_wy A k) = s.1 then (s.1, nI 0) else if (q_sgS A (nv (q_bs A (q_wx A k) (q_wy A k))) (q_wx A k) (q_wy A k)).toInt64 * 100 ≤ (100 + (A 16).toInt64) * (q_sgS A (nv s.1) (q_wx A k) (q_wy A k)).toInt64 then (s.1, nI 0) else if s.2 + nI 1 = A 17 then (q_bs A (q_wx A k) (q_wy A k), nI 0) else (s.1, s.2 + nI 1)) else (q_bs A (q_wx A k) (q_wy A k), nI 0)
def q_wst (A : Nat → Int32) (k : Nat) : Int32 × Int32 := q_fold (q_wkf A) k (-1, nI 0)
theorem q_wst_s {A : Nat → Int32} {k : Nat} : q_wst A (k + 1) = q_wkf A k (q_wst A k) := rfl
def q_who (A : Nat → Int32) (x : Int32) : Prop := x = -1 ∨ ∃ zs, zs < nv (A 1) ∧ x = nI zs
theorem q_bs_who {A : Nat → Int32} (h6 : nv (A 1) ≤ 6) (x y : Nat) : q_who A (q_bs A x y) := by
  rcases q_bs_i (A := A) (zx := x) (zy := y) (nv (A 1)) (by omega) with ⟨e, _⟩ | ⟨zj, h1, h2, _⟩
  · exact Or.inl e
  · exact Or.inr ⟨zj, h1, h2⟩
theorem q_wst_i {A : Nat → Int32} (h6 : nv (A 1) ≤ 6) (h17 : rg (A 17) 9) (h0 : ¬ A 17 = 0) : ∀ k, q_who A (q_wst A k).1 ∧ ∃ zw, zw < nv (A 17) ∧ (q_wst A k).2 = nI zw := by
  have hp : 0 < nv (A 17) := by
    by_cases hz : nv (A 17) = 0
    · exact absurd (by rw [h17.1, hz]; rfl) h0
    · omega
  have h9 := h17.2
  intro k
  induction k with
  | zero => exact ⟨Or.inl rfl, 0, hp, rfl⟩
  | succ k ih =>
    rw [q_wst_s]
    generalize q_wst A k = zs at ih
    obtain ⟨i1, zw, i2, i3⟩ := ih
    unfold q_wkf
    have hb := q_bs_who h6 (q_wx A k) (q_wy A k)
    split
    · exact ⟨hb, 0, hp, rfl⟩
    · split
      · split
        · exact ⟨i1, 0, hp, rfl⟩
        · split
          · exact ⟨i1, 0, hp, rfl⟩
          · split
            · exact ⟨hb, 0, hp, rfl⟩
            · rename_i hne
              refine ⟨i1, zw + 1, ?_, by dsimp only; rw [i3, nI_add]⟩
              by_cases hz : zw + 1 = nv (A 17)
              · exact absurd (by rw [i3, nI_add, hz, ← h17.1]) hne
              · omega
      · exact ⟨hb, 0, hp, rfl⟩
section Walk
variable {N : pN} {P : pR} {I J : pI} {L : pL} {zk : Nat}
theorem c_isWish (hG : GW N P) (hS : SR N P I 1 0) {zx zy : Nat} (h47 : ∀ zs, zs < 6 → I 47 zs = q_s0 (I 68) zs zx zy) {zb zs : Nat} (hb : zb < 6) (hs : zs < 6) (h1 : q_st (I 68) (nI zb) = true) (h2 : q_st (I 68) (nI zs) = true) : f_X3_isWish N I P 44 (nI zb) (nI zs) = some (if nI zb = nI zs then nI 0 else if (q_sgS (I 68) zb zx zy).toInt64 * 100 ≤ (100 + (I 68 16).toInt64) * (q_sgS (I 68) zs zx zy).toInt64 then nI 0 else nI 1) := by
  have e1 : I 47 zb = q_sgS (I 68) zb zx zy := by rw [h47 zb hb]; unfold q_s0; rw [if_pos h1]
  have e2 : I 47 zs = q_sgS (I 68) zs zx zy := by rw [h47 zs hs]; unfold q_s0; rw [if_pos h2]
  have hc1 : ¬ nI (N.2 47).2 ≤ nI zb := by rw [gn_47 hG]; exact nI_ge hb (by decide)
  have hc2 : nI zs < nI (N.2 47).2 := by rw [gn_47 hG]; exact nI_lt hs (by decide)
  have hib1 : p_ib N 47 (nI zb) = true := n_ib (gn_47 hG) hb (by decide)
  have hib2 : p_ib N 47 (nI zs) = true := n_ib (gn_47 hG) hs (by decide)
  have k1 : (nI zb).toNatClampNeg = zb := nI_clamp (by omega)
  have k2 : (nI zs).toNatClampNeg = zs := nI_clamp (by omega)
  have e16 : f_X7_setting N I P 1 (nI 5) = some (I 68 16) := c_setting hG hS (by decide)
  unfold f_X3_isWish
  by_cases he : nI zb = nI zs
  · rw [if_pos he, if_pos he]
  · simp only [if_neg he, if_neg (nI_pos (show zb < 2 ^ 31 by omega)), if_neg (nI_pos (show zs < 2 ^ 31 by omega)), gp_44_4 hG, gp_44_0 hG, Option.bind_some, if_neg hc1, if_pos hc2, n_ck hib1, n_ck hib2, k1, k2, e16, e1, e2]
    split <;> rfl
theorem c_followWalk (h : cK zk N P I J) {zn : Nat} (hn : 200 < zn) : ∃ J2 K2, f_X3_followWalk zn N J L P 44 = some (J2, K2) ∧ cK zk N P I J2 ∧ ∀ zj, zj < nv (I 68 7) → J2 48 zj = (q_wst (I 68) (zj + 1)).1 := by
  have hG := h.gw
  have r1 := h.n1
  have h6 := r1.2
  have r7 : rg (I 68 7) 60 := by rw [← h.2.e68]; exact h.sr.rk.1
  have h60 := r7.2
  have r17 : rg (I 68 17) 9 := by rw [← h.2.e68]; exact (h.sr.rg.2.1 6 (by decide)).2
  have n17 : ¬ I 68 17 = 0 := by rw [← h.2.e68]; exact h.sr.rg.2.2.2
  have hloop := p_loopI (B := B_X3_followWalk_6 zn N P 44) (zJ := fun zj (zc : Int32 × Int32 × Int32 × pI × pL) => (zc.1, zc.2.1) = q_wst (I 68) zj ∧ zc.2.2.1 = nI zj ∧ cK zk N P I zc.2.2.2.1 ∧ ∀ zi, zi < zj → zc.2.2.2.1 48 zi = (q_wst (I 68) (zi + 1)).1) (zE := fun (zt : pI × pL) => cK zk N P I zt.1 ∧ ∀ zj, zj < nv (I 68 7) → zt.1 48 zj = (q_wst (I 68) (zj + 1)).1) (zm := nv (I 68 7)) (zn := zn) (by omega) ?_ ?_ (-1, nI 0, nI 0, J, L) ⟨rfl, rfl, h, fun zi hi => absurd hi (Nat.not_lt_zero zi)⟩
  · obtain ⟨⟨J2, K2⟩, k1, k2⟩ := hloop
    refine ⟨J2, K2, ?_, k2⟩
    unfold f_X3_followWalk
    rw [k1, Option.bind_some]
  · rintro zj hj ⟨zs, zw, zi, J, K⟩ ⟨e0, e1, e3, e4⟩
    dsimp only at e0 e1 e3 e4
    subst e1
    left
    have e7 : nv (J 68 7) = nv (I 68 7) := by rw [e3.2.e68]
    have tb : TB N P J 18 19 60 2 (nv (I 68 7)) := by rw [← e7]; exact e3.sr.rk.2.1
    have hcw := e3.sr.rk.2.2 zj (show zj < nv (J 68 7) by rw [e7]; exact hj)
    have w0 : J 19 (zj * 2 + 0) = nI (q_wx (I 68) zj) ∧ q_wx (I 68) zj ≤ 20 := by
      have h9 := hcw 0 (by decide)
      have h8 : J 19 (zj * 2 + 0) = J 68 (220 + 2 * zj) ∧ rg (J 68 (220 + 2 * zj)) 20 := h9
      rw [e3.2.e68] at h8
      exact ⟨h8.1.trans h8.2.1, h8.2.2⟩
    have w1 : J 19 (zj * 2 + 1) = nI (q_wy (I 68) zj) ∧ q_wy (I 68) zj ≤ 20 := by
      have h9 := hcw 1 (by decide)
      have h8 : J 19 (zj * 2 + 1) = J 68 (220 + 2 * zj + 1) ∧ rg (J 68 (220 + 2 * zj + 1)) 20 := h9
      rw [e3.2.e68] at h8
      exact ⟨h8.1.trans h8.2.1, h8.2.2⟩
    obtain ⟨i1, zv, i2, i3⟩ := q_wst_i h6 r17 n17 zj
    have hnx := q_wst_s (A := I 68) (k := zj)
    rw [← e0] at hnx i1 i3
    dsimp only at i1 i3
    subst i3
    obtain ⟨w0, wx⟩ := w0
    obtain ⟨w1, wy⟩ := w1
    unfold q_wkf at hnx
    generalize q_wx (I 68) zj = zx at w0 wx hnx
    generalize q_wy (I 68) zj = zy at w1 wy hnx
    dsimp only at hnx
    obtain ⟨J2, K2, k1, k2, k3, k4⟩ := c_listen (L := K) e3.1 wx wy (zn := zn) (by omega)
    have j68 : J2 68 = I 68 := by rw [k3.e68, e3.2.e68]
    have h47 : ∀ zs, zs < 6 → J2 47 zs = q_s0 (J2 68) zs zx zy := by rw [k3.e68]; exact k4
    have hbest : f_X3_bestHeard zn N J2 P 44 = some (q_bs (I 68) zx zy) := by rw [c_bestHeard hG k2.sr wx wy h47 (by omega), j68]
    have hc1 : ¬ nI (nv (I 68 7)) ≤ nI zj := nI_ge hj (by omega)
    have hc2 : ¬ nI (N.2 48).2 ≤ nI zj := by rw [gn_48 hG]; exact nI_ge (by omega) (by decide)
    have hib : p_ib N 48 (nI zj) = true := n_ib (gn_48 hG) (show zj < 60 by omega) (by decide)
    have kcl : (nI zj).toNatClampNeg = zj := nI_clamp (by omega)
    have e48 : J2 48 = J 48 := k3 48 (by decide) (by decide) (by decide) (by decide) (by decide) (by decide) (by decide) (by decide)
    have e17 : f_X7_setting N J2 P 1 (nI 6) = some (I 68 17) := by
      have h9 := c_setting hG k2.sr (zw := 6) (by decide)
      rw [j68] at h9; exact h9
    have hx2 : cK zk N P I J2 := ⟨k2, e3.2.tr k3.x⟩
    have hout : ∀ (zr : Int32 × Int32), zr = q_wst (I 68) (zj + 1) → cK zk N P I (p_u J2 48 zj zr.1) ∧ ∀ zi, zi < zj + 1 → p_u J2 48 zj zr.1 48 zi = (q_wst (I 68) (zi + 1)).1 := fun zr hr => by
      refine ⟨⟨k2.scratch (fun zq hq => p_u_ne (by omega)), hx2.2.tr (fun zq a b c d e => p_u_ne (by omega))⟩, fun zi hi => ?_⟩
      by_cases hz : zi = zj
      · rw [hz, p_u_self, hr]
      · rw [p_u_nk hz, e48]; exact e4 zi (by omega)
    have hpre : ∀ zrec (zt : Int32 × Int32), (Option.bind (α := Int32) ((if zs = (-1) then some (nI 0) else Option.bind (f_X3_isHeard zn N J2 P 44 zs) fun q36 => (if q36 = 0 then some (nI 0) else some (nI 1)))) fun t34 => Option.bind (α := Int32) ((if t34 = 0 then some (nI 0) else Option.bind (f_X3_isWish N J2 P 44 (q_bs (I 68) zx zy) zs) fun q40 => (if q40 = 0 then some (nI 0) else some (nI zv + (nI 1))))) fun t38 => (if t34 = 0 then some (q_bs (I 68) zx zy, nI 0) else (if t38 < I 68 17 then some (zs, t38) else some (q_bs (I 68) zx zy, nI 0)))) = some zt → B_X3_followWalk_6 zn N P 44 zrec (zs, nI zv, nI zj, J, K) = zrec (zt.1, zt.2, nI (zj + 1), p_u J2 48 zj zt.1, K2) := fun zrec zt ht => by
      unfold B_X3_followWalk_6
      simp only [gp_44_0 hG, gp_1_8 hG, gp_44_5 hG, Option.bind_some, tb_size tb, if_neg hc1, if_neg hc2, tb_get tb hj (show 0 < 2 by decide), tb_get tb hj (show 1 < 2 by decide), w0, w1, k1, hbest, e17, n_ck hib, kcl, n_let, nI_add]
      generalize (if zs = (-1) then some (nI 0) else Option.bind (f_X3_isHeard zn N J2 P 44 zs) fun q36 => (if q36 = 0 then some (nI 0) else some (nI 1))) = za at ht ⊢
      cases za with
      | none => cases ht
      | some zb =>
        simp only [Option.bind_some, nI_add] at ht ⊢
        generalize (if zb = 0 then some (nI 0) else Option.bind (f_X3_isWish N J2 P 44 (q_bs (I 68) zx zy) zs) fun q40 => (if q40 = 0 then some (nI 0) else some (nI (zv + 1)))) = zc at ht ⊢
        cases zc with
        | none => cases ht
        | some zd =>
          simp only [Option.bind_some] at ht ⊢
          rw [ht, Option.bind_some]
    rcases i1 with i1 | ⟨zo, o1, o2⟩
    · have hneg : zs < 0 := by rw [i1]; decide
      rw [if_pos hneg] at hnx
      obtain ⟨q1, q2⟩ := hout _ hnx.symm
      refine ⟨(q_bs (I 68) zx zy, nI 0, nI (zj + 1), p_u J2 48 zj (q_bs (I 68) zx zy), K2), ⟨hnx.symm, rfl, q1, q2⟩, fun zrec => ?_⟩
      refine hpre zrec (q_bs (I 68) zx zy, nI 0) ?_
      simp only [if_pos i1, Option.bind_some, n_00, if_true]
    · subst o2
      have hneg : ¬ nI zo < 0 := nI_pos (by omega)
      have hne1 : ¬ nI zo = -1 := n_neg1 (by omega)
      have hhd : f_X3_isHeard zn N J2 P 44 (nI zo) = some (bI (q_hd (I 68) zo zx zy)) := by rw [c_isHeard hG k2.sr wx wy h47 (by omega) (by omega), j68]
      rw [if_neg hneg, nv_nI (zk := zo) (by omega)] at hnx
      cases hh : q_hd (I 68) zo zx zy with
      | false =>
        rw [hh] at hhd
        rw [hh, if_neg (by decide)] at hnx
        obtain ⟨q1, q2⟩ := hout _ hnx.symm
        refine ⟨(q_bs (I 68) zx zy, nI 0, nI (zj + 1), p_u J2 48 zj (q_bs (I 68) zx zy), K2), ⟨hnx.symm, rfl, q1, q2⟩, fun zrec => ?_⟩
        refine hpre zrec (q_bs (I 68) zx zy, nI 0) ?_
        simp only [if_neg hne1, hhd, Option.bind_some, bI_iff, n_00, if_true]
      | true =>
        rw [hh] at hhd
        rw [hh, if_pos rfl] at hnx
        have hb2 : ∃ zb, zb < nv (I 68 1) ∧ q_bs (I 68) zx zy = nI zb ∧ q_hd (I 68) zb zx zy = true := by
          rcases q_bs_i (A := I 68) (zx := zx) (zy := zy) (nv (I 68 1)) (by omega) with ⟨_, g⟩ | g
          · rw [g zo o1] at hh; cases hh
          · exact g
        obtain ⟨zb, b1, b2, b3⟩ := hb2
        have hwish := c_isWish hG k2.sr (zx := zx) (zy := zy) h47 (zb := zb) (zs := zo) (by omega) (by omega) (by rw [j68]; exact q_hd_st b3) (by rw [j68]; exact q_hd_st hh)
        rw [j68] at hwish
        rw [b2, nv_nI (zk := zb) (by omega)] at hnx
        have h17p : nI 0 < I 68 17 := by
          rw [r17.1]
          exact nI_lt (by omega) (by have := r17.2; omega)
        by_cases he : nI zb = nI zo
        · rw [if_pos he] at hnx hwish
          obtain ⟨q1, q2⟩ := hout _ hnx.symm
          refine ⟨(nI zo, nI 0, nI (zj + 1), p_u J2 48 zj (nI zo), K2), ⟨hnx.symm, rfl, q1, q2⟩, fun zrec => ?_⟩
          refine hpre zrec (nI zo, nI 0) ?_
          simp only [if_neg hne1, hhd, Option.bind_some, bI_ift, b2, hwish, n_10, n_00, if_false, if_true, if_pos h17p]
        · rw [if_neg he] at hnx hwish
          by_cases hle : (q_sgS (I 68) zb zx zy).toInt64 * 100 ≤ (100 + (I 68 16).toInt64) * (q_sgS (I 68) zo zx zy).toInt64
          · rw [if_pos hle] at hnx hwish
            obtain ⟨q1, q2⟩ := hout _ hnx.symm
            refine ⟨(nI zo, nI 0, nI (zj + 1), p_u J2 48 zj (nI zo), K2), ⟨hnx.symm, rfl, q1, q2⟩, fun zrec => ?_⟩
            refine hpre zrec (nI zo, nI 0) ?_
            simp only [if_neg hne1, hhd, Option.bind_some, bI_ift, b2, hwish, n_10, n_00, if_false, if_true, if_pos h17p]
          · rw [if_neg hle] at hnx hwish
            by_cases hw : nI zv + nI 1 = I 68 17
            · have hlt : ¬ nI zv + nI 1 < I 68 17 := by rw [hw]; exact Int32.lt_irrefl
              rw [if_pos hw] at hnx
              obtain ⟨q1, q2⟩ := hout _ hnx.symm
              refine ⟨(nI zb, nI 0, nI (zj + 1), p_u J2 48 zj (nI zb), K2), ⟨hnx.symm, rfl, q1, q2⟩, fun zrec => ?_⟩
              refine hpre zrec (nI zb, nI 0) ?_
              simp only [if_neg hne1, hhd, Option.bind_some, bI_ift, b2, hwish, n_10, if_false, if_neg hlt]
            · have hlt : nI zv + nI 1 < I 68 17 := by
                rw [nI_add] at hw ⊢
                rw [r17.1] at hw ⊢
                have h9 := r17.2
                refine nI_lt ?_ (by omega)
                by_cases hz : zv + 1 = nv (I 68 17)
                · exact absurd (by rw [hz]) hw
                · omega
              rw [if_neg hw] at hnx
              obtain ⟨q1, q2⟩ := hout _ hnx.symm
              refine ⟨(nI zo, nI zv + nI 1, nI (zj + 1), p_u J2 48 zj (nI zo), K2), ⟨hnx.symm, rfl, q1, q2⟩, fun zrec => ?_⟩
              refine hpre zrec (nI zo, nI zv + nI 1) ?_
              simp only [if_neg hne1, hhd, Option.bind_some, bI_ift, b2, hwish, n_10, if_false, if_pos hlt]
  · rintro ⟨zs, zw, zi, J, K⟩ ⟨e0, e1, e3, e4⟩
    dsimp only at e0 e1 e3 e4
    subst e1
    have e7 : nv (J 68 7) = nv (I 68 7) := by rw [e3.2.e68]
    have tb : TB N P J 18 19 60 2 (nv (I 68 7)) := by rw [← e7]; exact e3.sr.rk.2.1
    refine ⟨(J, K), ⟨e3, e4⟩, fun zrec => ?_⟩
    unfold B_X3_followWalk_6
    simp only [gp_44_0 hG, gp_1_8 hG, Option.bind_some, tb_size tb, if_pos (Int32.le_refl (nI (nv (I 68 7))))]
theorem m_walks (h : mK zk N P I J) {zn : Nat} (hn : 200 < zn) : ∃ J2 K2, f_X12_walks zn N J L P 67 = some (J2, K2) ∧ mK zk N P I J2 ∧ ∀ zj, zj < nv (I 68 7) → J2 78 zj = (q_wst (I 68) (zj + 1)).1 := by
  have hG := h.gw
  have r1 := h.n1
  have h6 := r1.2
  have r7 : rg (I 68 7) 60 := by rw [← h.2.e68]; exact h.sr.rk.1
  have h60 := r7.2
  have r17 : rg (I 68 17) 9 := by rw [← h.2.e68]; exact (h.sr.rg.2.1 6 (by decide)).2
  have n17 : ¬ I 68 17 = 0 := by rw [← h.2.e68]; exact h.sr.rg.2.2.2
  have i7 : p_ib N 68 (nI 7) = true := ib_68 hG (by decide)
  have k7 : (nI 7).toNatClampNeg = 7 := by decide
  have i16 : p_ib N 68 (nI 16) = true := ib_68 hG (by decide)
  have k16 : (nI 16).toNatClampNeg = 16 := by decide
  have i17 : p_ib N 68 (nI 17) = true := ib_68 hG (by decide)
  have k17 : (nI 17).toNatClampNeg = 17 := by decide
  have hloop := p_loopI (B := B_X12_walks_6 zn N P 67) (zJ := fun zj (zc : Int32 × Int32 × Int32 × pI × pL) => (zc.1, zc.2.1) = q_wst (I 68) zj ∧ zc.2.2.1 = nI zj ∧ mK zk N P I zc.2.2.2.1 ∧ ∀ zi, zi < zj → zc.2.2.2.1 78 zi = (q_wst (I 68) (zi + 1)).1) (zE := fun (zt : pI × pL) => mK zk N P I zt.1 ∧ ∀ zj, zj < nv (I 68 7) → zt.1 78 zj = (q_wst (I 68) (zj + 1)).1) (zm := nv (I 68 7)) (zn := zn) (by omega) ?_ ?_ (-1, nI 0, nI 0, J, L) ⟨rfl, rfl, h, fun zi hi => absurd hi (Nat.not_lt_zero zi)⟩
  · obtain ⟨⟨J2, K2⟩, k1, k2⟩ := hloop
    refine ⟨J2, K2, ?_, k2⟩
    unfold f_X12_walks
    rw [k1, Option.bind_some]
  · rintro zj hj ⟨zs, zw, zi, J, K⟩ ⟨e0, e1, e3, e4⟩
    dsimp only at e0 e1 e3 e4
    subst e1
    left
    have e7 : nv (J 68 7) = nv (I 68 7) := by rw [e3.2.e68]
    have hcw := e3.sr.rk.2.2 zj (show zj < nv (J 68 7) by rw [e7]; exact hj)
    have w0 : J 68 (220 + 2 * zj) = nI (q_wx (I 68) zj) ∧ q_wx (I 68) zj ≤ 20 := by
      have h8 : rg (J 68 (220 + 2 * zj)) 20 := (hcw 0 (by decide)).2
      unfold q_wx
      rw [e3.2.e68] at h8 ⊢
      exact h8
    have w1 : J 68 (220 + 2 * zj + 1) = nI (q_wy (I 68) zj) ∧ q_wy (I 68) zj ≤ 20 := by
      have h8 : rg (J 68 (220 + 2 * zj + 1)) 20 := (hcw 1 (by decide)).2
      unfold q_wy
      rw [e3.2.e68] at h8 ⊢
      exact h8
    obtain ⟨i1, zv, i2, i3⟩ := q_wst_i h6 r17 n17 zj
    have hnx := q_wst_s (A := I 68) (k := zj)
    rw [← e0] at hnx i1 i3
    dsimp only at i1 i3
    subst i3
    obtain ⟨w0, wx⟩ := w0
    obtain ⟨w1, wy⟩ := w1
    unfold q_wkf at hnx
    generalize q_wx (I 68) zj = zx at w0 wx hnx
    generalize q_wy (I 68) zj = zy at w1 wy hnx
    dsimp only at hnx
    have hc1 : ¬ J 68 7 ≤ nI zj := by rw [e3.2.e68, r7.1]; exact nI_ge hj (by omega)
    have ia0 : nI 220 + nI 2 * nI zj = nI (220 + 2 * zj) := by rw [pk_mul, nI_add]
    have ia1 : nI (220 + 2 * zj) + nI 1 = nI (220 + 2 * zj + 1) := nI_add _ _
    have ib0 : p_ib N 68 (nI (220 + 2 * zj)) = true := ib_68 hG (by omega)
    have ib1 : p_ib N 68 (nI (220 + 2 * zj + 1)) = true := ib_68 hG (by omega)
    have ic0 : (nI (220 + 2 * zj)).toNatClampNeg = 220 + 2 * zj := nI_clamp (by omega)
    have ic1 : (nI (220 + 2 * zj + 1)).toNatClampNeg = 220 + 2 * zj + 1 := nI_clamp (by omega)
    have hib : p_ib N 78 (nI zj) = true := n_ib (gn_78 hG) (show zj < 60 by omega) (by decide)
    have kcl : (nI zj).toNatClampNeg = zj := nI_clamp (by omega)
    obtain ⟨J2, K2, k1, k2, k3⟩ := m_bestAt (L := K) e3 wx wy hn
    have hout : ∀ (X : pI) (zr : Int32 × Int32), mK zk N P I X → m_gF J X → zr = q_wst (I 68) (zj + 1) → mK zk N P I (p_u X 78 zj zr.1) ∧ ∀ zi, zi < zj + 1 → p_u X 78 zj zr.1 78 zi = (q_wst (I 68) (zi + 1)).1 := fun X zr hX hg hr => by
      refine ⟨⟨hX.1.scratch (fun zq hq => p_u_ne (by omega)), hX.2.tr (fun zq a => p_u_ne (by omega))⟩, fun zi hi => ?_⟩
      by_cases hz : zi = zj
      · rw [hz, p_u_self, hr]
      · rw [p_u_nk hz, hg.1 78 (by decide) (by decide) (by decide)]; exact e4 zi (by omega)
    rcases i1 with i1 | ⟨zo, o1, o2⟩
    · have hneg : zs < 0 := by rw [i1]; decide
      rw [if_pos hneg] at hnx
      obtain ⟨q1, q2⟩ := hout _ _ k2 k3 hnx.symm
      refine ⟨(q_bs (I 68) zx zy, nI 0, nI (zj + 1), p_u J2 78 zj (q_bs (I 68) zx zy), K2), ⟨hnx.symm, rfl, q1, q2⟩, fun zrec => ?_⟩
      unfold B_X12_walks_6
      simp only [gp_67_0 hG, gp_67_21 hG, Option.bind_some, n_ck i7, k7, if_neg hc1, ia0, ia1, n_ck ib0, n_ck ib1, ic0, ic1, n_let, w0, w1, k1, if_pos hneg, n_ck hib, kcl, nI_add]
    · subst o2
      have hneg : ¬ nI zo < 0 := nI_pos (by omega)
      rw [if_neg hneg, nv_nI (zk := zo) (by omega)] at hnx
      cases hst : q_st (I 68) (nI zo) with
      | false =>
        have hh : q_hd (I 68) zo zx zy = false := by unfold q_hd; rw [hst]; rfl
        rw [hh, if_neg (by decide)] at hnx
        obtain ⟨q1, q2⟩ := hout _ _ k2 k3 hnx.symm
        refine ⟨(q_bs (I 68) zx zy, nI 0, nI (zj + 1), p_u J2 78 zj (q_bs (I 68) zx zy), K2), ⟨hnx.symm, rfl, q1, q2⟩, fun zrec => ?_⟩
        unfold B_X12_walks_6
        simp only [gp_67_0 hG, gp_67_21 hG, Option.bind_some, n_ck i7, k7, if_neg hc1, ia0, ia1, n_ck ib0, n_ck ib1, ic0, ic1, n_let, w0, w1, k1, if_neg hneg, k2.sees, hst, bI_iff, n_ck hib, kcl, nI_add]
      | true =>
        obtain ⟨J3, K3, t1, t2, t3⟩ := k2.hd (L := K2) hst (by omega) wx wy hn
        cases hh : q_hd (I 68) zo zx zy with
        | false =>
          rw [hh] at t1
          rw [hh, if_neg (by decide)] at hnx
          obtain ⟨q1, q2⟩ := hout _ _ t2 (k3.tr t3) hnx.symm
          refine ⟨(q_bs (I 68) zx zy, nI 0, nI (zj + 1), p_u J3 78 zj (q_bs (I 68) zx zy), K3), ⟨hnx.symm, rfl, q1, q2⟩, fun zrec => ?_⟩
          unfold B_X12_walks_6
          simp only [gp_67_0 hG, gp_67_21 hG, Option.bind_some, n_ck i7, k7, if_neg hc1, ia0, ia1, n_ck ib0, n_ck ib1, ic0, ic1, n_let, w0, w1, k1, if_neg hneg, k2.sees, hst, bI_iff, bI_ift, t1, n_ck hib, kcl, nI_add]
        | true =>
          rw [hh] at t1
          rw [hh, if_pos rfl] at hnx
          have hb2 : ∃ zb, zb < nv (I 68 1) ∧ q_bs (I 68) zx zy = nI zb ∧ q_hd (I 68) zb zx zy = true := by
            rcases q_bs_i (A := I 68) (zx := zx) (zy := zy) (nv (I 68 1)) (by omega) with ⟨_, g⟩ | g
            · rw [g zo o1] at hh; cases hh
            · exact g
          obtain ⟨zb, b1, b2, b3⟩ := hb2
          rw [b2, nv_nI (zk := zb) (by omega)] at hnx
          rw [b2] at k1
          by_cases he : nI zb = nI zo
          · rw [if_pos he] at hnx
            obtain ⟨q1, q2⟩ := hout _ _ t2 (k3.tr t3) hnx.symm
            refine ⟨(nI zo, nI 0, nI (zj + 1), p_u J3 78 zj (nI zo), K3), ⟨hnx.symm, rfl, q1, q2⟩, fun zrec => ?_⟩
            unfold B_X12_walks_6
            simp only [gp_67_0 hG, gp_67_21 hG, Option.bind_some, n_ck i7, k7, if_neg hc1, ia0, ia1, n_ck ib0, n_ck ib1, ic0, ic1, n_let, w0, w1, k1, if_neg hneg, k2.sees, hst, bI_ift, t1, if_pos he, n_ck hib, kcl, nI_add]
          · rw [if_neg he] at hnx
            obtain ⟨J4, K4, u1, u2, u3⟩ := t2.sg (L := K3) b1 wx wy hn
            obtain ⟨J5, K5, v1, v2, v3⟩ := u2.sg (L := K4) o1 wx wy hn
            have g5 := k3.tr (t3.tr (u3.tr v3))
            have e16 : J4 68 16 = I 68 16 := by rw [u2.2.e68]
            have e17 : J5 68 17 = I 68 17 := by rw [v2.2.e68]
            by_cases hle : (q_sgS (I 68) zb zx zy).toInt64 * 100 ≤ (100 + (I 68 16).toInt64) * (q_sgS (I 68) zo zx zy).toInt64
            · rw [if_pos hle] at hnx
              obtain ⟨q1, q2⟩ := hout _ _ v2 g5 hnx.symm
              refine ⟨(nI zo, nI 0, nI (zj + 1), p_u J5 78 zj (nI zo), K5), ⟨hnx.symm, rfl, q1, q2⟩, fun zrec => ?_⟩
              unfold B_X12_walks_6
              simp only [gp_67_0 hG, gp_67_21 hG, Option.bind_some, n_ck i7, k7, if_neg hc1, ia0, ia1, n_ck ib0, n_ck ib1, ic0, ic1, n_let, w0, w1, k1, if_neg hneg, k2.sees, hst, bI_ift, t1, if_neg he, u1, n_ck i16, k16, v1, e16, if_pos hle, n_ck hib, kcl, nI_add]
            · rw [if_neg hle] at hnx
              by_cases hw : nI zv + nI 1 = I 68 17
              · rw [if_pos hw] at hnx
                obtain ⟨q1, q2⟩ := hout _ _ v2 g5 hnx.symm
                refine ⟨(nI zb, nI 0, nI (zj + 1), p_u J5 78 zj (nI zb), K5), ⟨hnx.symm, rfl, q1, q2⟩, fun zrec => ?_⟩
                unfold B_X12_walks_6
                simp only [gp_67_0 hG, gp_67_21 hG, Option.bind_some, n_ck i7, k7, if_neg hc1, ia0, ia1, n_ck ib0, n_ck ib1, ic0, ic1, n_let, w0, w1, k1, if_neg hneg, k2.sees, hst, bI_ift, t1, if_neg he, u1, n_ck i16, k16, v1, e16, if_neg hle, n_ck i17, k17, e17, if_pos hw, n_ck hib, kcl, nI_add zj 1]
              · rw [if_neg hw] at hnx
                obtain ⟨q1, q2⟩ := hout _ _ v2 g5 hnx.symm
                refine ⟨(nI zo, nI zv + nI 1, nI (zj + 1), p_u J5 78 zj (nI zo), K5), ⟨hnx.symm, rfl, q1, q2⟩, fun zrec => ?_⟩
                unfold B_X12_walks_6
                simp only [gp_67_0 hG, gp_67_21 hG, Option.bind_some, n_ck i7, k7, if_neg hc1, ia0, ia1, n_ck ib0, n_ck ib1, ic0, ic1, n_let, w0, w1, k1, if_neg hneg, k2.sees, hst, bI_ift, t1, if_neg he, u1, n_ck i16, k16, v1, e16, if_neg hle, n_ck i17, k17, e17, if_neg hw, n_ck hib, kcl, nI_add zj 1]
  · rintro ⟨zs, zw, zi, J, K⟩ ⟨e0, e1, e3, e4⟩
    dsimp only at e0 e1 e3 e4
    subst e1
    have hc1 : J 68 7 ≤ nI (nv (I 68 7)) := by rw [e3.2.e68, ← r7.1]; exact Int32.le_refl _
    refine ⟨(J, K), ⟨e3, e4⟩, fun zrec => ?_⟩
    unfold B_X12_walks_6
    simp only [gp_67_0 hG, Option.bind_some, n_ck i7, k7, if_pos hc1]
/-- how often another one serves, how long none does -/
def q_W (A : Nat → Int32) (k : Nat) : Int32 := (q_wst A (k + 1)).1
def q_ch1 (A : Nat → Int32) (k : Nat) : Nat := if k = 0 then 0 else if q_W A k < 0 then 0 else if q_W A (k - 1) < 0 then 0 else if q_W A k = q_W A (k - 1) then 0 else 1
def q_ch (A : Nat → Int32) (k : Nat) : Nat := q_fold (fun j s => s + q_ch1 A j) k 0
def q_lo (A : Nat → Int32) (k : Nat) : Nat := q_fold (fun j s => s + (if q_W A j < 0 then 1 else 0)) k 0
theorem q_W_iff {A : Nat → Int32} (h6 : nv (A 1) ≤ 6) (h17 : rg (A 17) 9) (h0 : ¬ A 17 = 0) (k : Nat) : (q_W A k = -1) ↔ (q_W A k < 0) := by
  rcases (q_wst_i h6 h17 h0 (k + 1)).1 with e | ⟨zs, h1, h2⟩
  · unfold q_W
    rw [e]
    decide
  · unfold q_W
    rw [h2]
    constructor
    · intro h; exact absurd h (n_neg1 (by omega))
    · intro h; exact absurd h (nI_pos (by omega))
theorem c_servedIn (hG : GW N P) {zj : Nat} (hj : zj < 60) : f_X3_servedIn N I P 44 (nI zj) = some (I 48 zj) := by
  have hc2 : ¬ nI (N.2 48).2 ≤ nI zj := by rw [gn_48 hG]; exact nI_ge hj (by decide)
  have hib : p_ib N 48 (nI zj) = true := n_ib (gn_48 hG) hj (by decide)
  have kcl : (nI zj).toNatClampNeg = zj := nI_clamp (by omega)
  unfold f_X3_servedIn
  simp only [if_neg (nI_pos (show zj < 2 ^ 31 by omega)), gp_44_5 hG, Option.bind_some, if_neg hc2, n_ck hib, kcl]
theorem c_changes (hG : GW N P) {A : Nat → Int32} (h6 : nv (A 1) ≤ 6) (h17 : rg (A 17) 9) (h0 : ¬ A 17 = 0) {zm : Nat} (hm : zm ≤ 60) (tb : TB N P I 18 19 60 2 zm) (hW : ∀ zj, zj < zm → I 48 zj = q_W A zj) {zn : Nat} (hn : 200 < zn) : f_X3_changes zn N I P 44 = some (nI (q_ch A zm)) := by
  have hloop := p_loopI (B := B_X3_changes_4 N I P 44) (zJ := fun zj (zc : Int32 × Int32) => zc.1 = nI (q_ch A (zj + 1)) ∧ zc.2 = nI (zj + 1)) (zE := fun zt => zt = nI (q_ch A zm)) (zm := zm - 1) (zn := zn) (by omega) ?_ ?_ (nI 0, nI 1) ⟨rfl, rfl⟩
  · obtain ⟨zt, k1, k2⟩ := hloop
    unfold f_X3_changes
    rw [k1, Option.bind_some, k2]
  · rintro zj hj ⟨za, zb⟩ ⟨e1, e2⟩
    dsimp only at e1 e2
    subst e1
    subst e2
    left
    have hc : ¬ nI zm ≤ nI (zj + 1) := nI_ge (by omega) (by omega)
    have hs : nI (zj + 1) - nI 1 = nI zj := by rw [pk_sub (by omega)]; rfl
    refine ⟨(nI (q_ch A (zj + 1 + 1)), nI (zj + 1 + 1)), ⟨rfl, rfl⟩, fun zrec => ?_⟩
    show _ = zrec (nI (q_ch A (zj + 1) + q_ch1 A (zj + 1)), nI (zj + 1 + 1))
    unfold B_X3_changes_4
    simp only [gp_44_0 hG, gp_1_8 hG, Option.bind_some, tb_size tb, if_neg hc, hs, c_servedIn hG (show zj < 60 by omega), c_servedIn hG (show zj + 1 < 60 by omega), hW zj (by omega), hW (zj + 1) (by omega), n_let, nI_add]
    unfold q_ch1
    rw [if_neg (show ¬ zj + 1 = 0 by omega), Nat.add_sub_cancel]
    by_cases g1 : q_W A zj < 0
    · rw [if_pos ((q_W_iff h6 h17 h0 zj).mpr g1), if_pos g1, ite_self, nI_add]
    · rw [if_neg (fun e => g1 ((q_W_iff h6 h17 h0 zj).mp e)), if_neg g1]
      by_cases g2 : q_W A (zj + 1) < 0
      · rw [if_pos ((q_W_iff h6 h17 h0 (zj + 1)).mpr g2), if_pos g2, nI_add]
      · rw [if_neg (fun e => g2 ((q_W_iff h6 h17 h0 (zj + 1)).mp e)), if_neg g2]
        by_cases g3 : q_W A (zj + 1) = q_W A zj
        · rw [if_pos g3, if_pos g3.symm, nI_add]
        · rw [if_neg g3, if_neg (fun e => g3 e.symm), nI_add]
  · rintro ⟨za, zb⟩ ⟨e1, e2⟩
    dsimp only at e1 e2
    subst e1
    subst e2
    have hc : nI zm ≤ nI (zm - 1 + 1) := nI_le (by omega) (by omega)
    refine ⟨nI (q_ch A (zm - 1 + 1)), ?_, fun zrec => ?_⟩
    · by_cases hz : zm = 0
      · rw [hz]; rfl
      · rw [show zm - 1 + 1 = zm by omega]
    · unfold B_X3_changes_4
      simp only [gp_44_0 hG, gp_1_8 hG, Option.bind_some, tb_size tb, if_pos hc]
theorem c_lost (hG : GW N P) {A : Nat → Int32} (h6 : nv (A 1) ≤ 6) (h17 : rg (A 17) 9) (h0 : ¬ A 17 = 0) {zm : Nat} (hm : zm ≤ 60) (tb : TB N P I 18 19 60 2 zm) (hW : ∀ zj, zj < zm → I 48 zj = q_W A zj) {zn : Nat} (hn : 200 < zn) : f_X3_lost zn N I P 44 = some (nI (q_lo A zm)) := by
  have hloop := p_loopI (B := B_X3_lost_4 N I P 44) (zJ := fun zj (zc : Int32 × Int32) => zc.1 = nI (q_lo A zj) ∧ zc.2 = nI zj) (zE := fun zt => zt = nI (q_lo A zm)) (zm := zm) (zn := zn) (by omega) ?_ ?_ (nI 0, nI 0) ⟨rfl, rfl⟩
  · obtain ⟨zt, k1, k2⟩ := hloop
    unfold f_X3_lost
    rw [k1, Option.bind_some, k2]
  · rintro zj hj ⟨za, zb⟩ ⟨e1, e2⟩
    dsimp only at e1 e2
    subst e1
    subst e2
    left
    have hc : ¬ nI zm ≤ nI zj := nI_ge (by omega) (by omega)
    refine ⟨(nI (q_lo A (zj + 1)), nI (zj + 1)), ⟨rfl, rfl⟩, fun zrec => ?_⟩
    show _ = zrec (nI (q_lo A zj + (if q_W A zj < 0 then 1 else 0)), nI (zj + 1))
    unfold B_X3_lost_4
    simp only [gp_44_0 hG, gp_1_8 hG, Option.bind_some, tb_size tb, if_neg hc, c_servedIn hG (show zj < 60 by omega), hW zj (by omega), n_let, nI_add]
    by_cases g1 : q_W A zj < 0
    · rw [if_pos ((q_W_iff h6 h17 h0 zj).mpr g1), if_pos g1, nI_add]
    · rw [if_neg (fun e => g1 ((q_W_iff h6 h17 h0 zj).mp e)), if_neg g1, nI_add]
  · rintro ⟨za, zb⟩ ⟨e1, e2⟩
    dsimp only at e1 e2
    subst e1
    subst e2
    refine ⟨nI (q_lo A zm), rfl, fun zrec => ?_⟩
    unfold B_X3_lost_4
    simp only [gp_44_0 hG, gp_1_8 hG, Option.bind_some, tb_size tb, if_pos (Int32.le_refl (nI zm))]
theorem m_walkL (hG : GW N P) {A : Nat → Int32} {zm : Nat} (hm : zm ≤ 60) (e7 : I 68 7 = nI zm) (hW : ∀ zj, zj < zm → I 78 zj = q_W A zj) {zn : Nat} (hn : 200 < zn) : p_it (B_X12_walk_11 N I P 67) zn (nI 0, nI 0, nI 0) = some (nI (q_ch A zm), nI (q_lo A zm)) := by
  have i7 : p_ib N 68 (nI 7) = true := ib_68 hG (by decide)
  have k7 : (nI 7).toNatClampNeg = 7 := by decide
  have hloop := p_loopI (B := B_X12_walk_11 N I P 67) (zJ := fun zj (zc : Int32 × Int32 × Int32) => zc = (nI (q_ch A zj), nI (q_lo A zj), nI zj)) (zE := fun zt => zt = (nI (q_ch A zm), nI (q_lo A zm))) (zm := zm) (zn := zn) (by omega) ?_ ?_ (nI 0, nI 0, nI 0) rfl
  · obtain ⟨zt, k1, k2⟩ := hloop
    rw [k1, k2]
  · rintro zj hj _ rfl
    left
    have hc : ¬ nI zm ≤ nI zj := nI_ge (by omega) (by omega)
    have ib : p_ib N 78 (nI zj) = true := n_ib (gn_78 hG) (show zj < 60 by omega) (by decide)
    have ic : (nI zj).toNatClampNeg = zj := nI_clamp (by omega)
    refine ⟨(nI (q_ch A (zj + 1)), nI (q_lo A (zj + 1)), nI (zj + 1)), rfl, fun zrec => ?_⟩
    show _ = zrec (nI (q_ch A zj + q_ch1 A zj), nI (q_lo A zj + (if q_W A zj < 0 then 1 else 0)), nI (zj + 1))
    have hlo : (if 0 ≤ q_W A zj then nI 0 else nI 1) = nI (if q_W A zj < 0 then 1 else 0) := by
      by_cases g1 : q_W A zj < 0
      · rw [if_pos g1, if_neg (Int32.not_le.mpr g1)]
      · rw [if_neg g1, if_pos (Int32.not_lt.mp g1)]
    by_cases hz : zj = 0
    · subst hz
      have hc0 : nI 0 ≤ 0 := by decide
      unfold B_X12_walk_11
      simp only [gp_67_0 hG, gp_67_21 hG, Option.bind_some, n_ck i7, k7, e7, if_neg hc, n_ck ib, ic, hW 0 hj, n_let, hlo, if_pos hc0, nI_add]
      rfl
    · have hc0 : ¬ nI zj ≤ 0 := nI_nle (by omega) (by omega)
      have hs : nI zj - nI 1 = nI (zj - 1) := pk_sub (by omega)
      have ib2 : p_ib N 78 (nI (zj - 1)) = true := n_ib (gn_78 hG) (show zj - 1 < 60 by omega) (by decide)
      have ic2 : (nI (zj - 1)).toNatClampNeg = zj - 1 := nI_clamp (by omega)
      unfold B_X12_walk_11
      simp only [gp_67_0 hG, gp_67_21 hG, Option.bind_some, n_ck i7, k7, e7, if_neg hc, n_ck ib, ic, hW zj hj, n_let, hlo, if_neg hc0, hs, n_ck ib2, ic2, hW (zj - 1) (by omega), nI_add]
      unfold q_ch1
      rw [if_neg hz]
      by_cases g2 : q_W A zj < 0
      · simp only [if_pos g2, Option.bind_some, nI_add]
      · by_cases g1 : q_W A (zj - 1) < 0
        · simp only [if_neg g2, if_pos g1, Option.bind_some, nI_add]
        · by_cases g3 : q_W A zj = q_W A (zj - 1)
          · simp only [if_neg g2, if_neg g1, if_pos g3, Option.bind_some, nI_add]
          · simp only [if_neg g2, if_neg g1, if_neg g3, Option.bind_some, nI_add]
  · rintro _ rfl
    refine ⟨(nI (q_ch A zm), nI (q_lo A zm)), rfl, fun zrec => ?_⟩
    unfold B_X12_walk_11
    simp only [gp_67_0 hG, Option.bind_some, n_ck i7, k7, e7, if_pos (Int32.le_refl (nI zm))]
end Walk
theorem sp_served {n zk : Nat} (hn : 200 < n) : Sp_served n (Ivv zk) (Ivv (zk + 1)) := by
  intro N I L P h x1
  have h : IV zk N P I := h
  have hG := h.gw
  have r7 : rg (I 68 7) 60 := h.sr.rk.1
  have h60 := r7.2
  have tb : TB N P I 18 19 60 2 (nv (I 68 7)) := h.sr.rk.2.1
  rcases pk_ix x1 (n := nv (I 68 7)) (by omega) with g | g | ⟨zs, hs, e⟩
  · refine ⟨(-1, I, L), (-1, I, L), ?_, ?_, rfl, h.up⟩
    · unfold f_X11_served
      simp only [gp_0_0 hG, gp_1_8 hG, Option.bind_some, tb_has_n tb (Or.inl g), n_00, if_true]
    · unfold f_X12_served
      simp only [m_isOf hG (show 7 < 30 by decide) r7 (by decide), Option.bind_some, q_of_in (c := I 68 7) (Or.inl g), bI_iff]
  · have g2 : I 68 7 ≤ x1 := by rw [r7.1]; exact g
    refine ⟨(-1, I, L), (-1, I, L), ?_, ?_, rfl, h.up⟩
    · unfold f_X11_served
      simp only [gp_0_0 hG, gp_1_8 hG, Option.bind_some, tb_has_n tb (Or.inr g), n_00, if_true]
    · unfold f_X12_served
      simp only [m_isOf hG (show 7 < 30 by decide) r7 (by decide), Option.bind_some, q_of_in (c := I 68 7) (Or.inr g2), bI_iff]
  · subst e
    obtain ⟨J, K, k1, k2, k3⟩ := c_followWalk (L := L) (cK.rf h) hn
    obtain ⟨J2, K2, m1, m2, m3⟩ := m_walks (L := K) (mK.rf k2.1) hn
    have e68 := k2.2.e68
    have hin : (!decide (nI zs < 0) && !decide (I 68 7 ≤ nI zs)) = true := q_of_ok (nI_pos (by omega)) (by rw [r7.1]; exact nI_ge hs (by omega))
    have ib : p_ib N 78 (nI zs) = true := n_ib (gn_78 hG) (show zs < 60 by omega) (by decide)
    have ic : (nI zs).toNatClampNeg = zs := nI_clamp (by omega)
    rw [e68] at m3
    refine ⟨(q_W (I 68) zs, J, K), (q_W (I 68) zs, J2, K2), ?_, ?_, rfl, m2.1.up⟩
    · unfold f_X11_served
      simp only [gp_0_0 hG, gp_1_8 hG, gp_0_3 hG, Option.bind_some, tb_has tb hs, n_10, if_false, k1, c_servedIn hG (show zs < 60 by omega), k3 zs hs]
      rfl
    · unfold f_X12_served
      rw [m_isOf hG (show 7 < 30 by decide) (show rg (J 68 7) 60 by rw [e68]; exact r7) (by decide), e68, hin]
      simp only [Option.bind_some, bI_ift, m1, gp_67_21 hG, n_ck ib, ic, m3 zs hs]
      rfl
theorem sp_walk {n zk : Nat} (hn : 200 < n) : Sp_walk n (Ivv zk) (Ivv (zk + 1)) := by
  intro N I L P h x1
  have h : IV zk N P I := h
  have hG := h.gw
  have h6 := h.n1.2
  have r7 : rg (I 68 7) 60 := h.sr.rk.1
  have h60 := r7.2
  have tb : TB N P I 18 19 60 2 (nv (I 68 7)) := h.sr.rk.2.1
  have r17 : rg (I 68 17) 9 := (h.sr.rg.2.1 6 (by decide)).2
  have n17 : ¬ I 68 17 = 0 := h.sr.rg.2.2.2
  have i7 : p_ib N 68 (nI 7) = true := ib_68 hG (by decide)
  have k7 : (nI 7).toNatClampNeg = 7 := by decide
  have z0 : (nI 0 : Int32) = 0 := rfl
  have hm : ∀ J K, IV zk N P J → J 68 = I 68 → ∃ J2 K2, f_X12_walks n N J K P 67 = some (J2, K2) ∧ mK zk N P J J2 ∧ J2 68 = I 68 ∧ p_it (B_X12_walk_11 N J2 P 67) n (nI 0, nI 0, nI 0) = some (nI (q_ch (I 68) (nv (I 68 7))), nI (q_lo (I 68) (nv (I 68 7)))) := fun J K hJ e68 => by
    obtain ⟨J2, K2, m1, m2, m3⟩ := m_walks (L := K) (mK.rf hJ) hn
    have e2 : J2 68 = I 68 := by rw [m2.2.e68, e68]
    rw [e68] at m3
    exact ⟨J2, K2, m1, m2, e2, m_walkL hG h60 (by rw [e2]; exact r7.1) m3 hn⟩
  by_cases h0 : x1 = 0
  · obtain ⟨J2, K2, m1, m2, m3, m4⟩ := hm I L h rfl
    refine ⟨(nI (nv (I 68 7)), I, L), (I 68 7, J2, K2), ?_, ?_, r7.1.symm, m2.1.up⟩
    · unfold f_X11_walk
      simp only [z0, if_pos h0, gp_0_0 hG, gp_1_8 hG, Option.bind_some, tb_size tb]
    · unfold f_X12_walk
      simp only [m1, Option.bind_some, m4, if_pos h0, gp_67_0 hG, n_ck i7, k7, m3]
  · by_cases h1 : x1 = nI 1
    · obtain ⟨J, K, k1, k2, k3⟩ := c_followWalk (L := L) (cK.rf h) hn
      obtain ⟨J2, K2, m1, m2, m3, m4⟩ := hm J K k2.1 k2.2.e68
      have tbJ : TB N P J 18 19 60 2 (nv (I 68 7)) := by
        have h9 := k2.sr.rk.2.1
        rw [k2.2.e68] at h9; exact h9
      have hch := c_changes hG (A := I 68) h6 r17 n17 h60 tbJ k3 hn
      refine ⟨(nI (q_ch (I 68) (nv (I 68 7))), J, K), (nI (q_ch (I 68) (nv (I 68 7))), J2, K2), ?_, ?_, rfl, m2.1.up⟩
      · unfold f_X11_walk
        simp only [z0, if_neg h0, if_pos h1, gp_0_3 hG, Option.bind_some, k1, hch]
      · unfold f_X12_walk
        simp only [m1, Option.bind_some, m4, if_neg h0, if_pos h1]
    · by_cases h2 : x1 = nI 2
      · obtain ⟨J, K, k1, k2, k3⟩ := c_followWalk (L := L) (cK.rf h) hn
        obtain ⟨J2, K2, m1, m2, m3, m4⟩ := hm J K k2.1 k2.2.e68
        have tbJ : TB N P J 18 19 60 2 (nv (I 68 7)) := by
          have h9 := k2.sr.rk.2.1
          rw [k2.2.e68] at h9; exact h9
        have hch := c_lost hG (A := I 68) h6 r17 n17 h60 tbJ k3 hn
        refine ⟨(nI (q_lo (I 68) (nv (I 68 7))), J, K), (nI (q_lo (I 68) (nv (I 68 7))), J2, K2), ?_, ?_, rfl, m2.1.up⟩
        · unfold f_X11_walk
          simp only [z0, if_neg h0, if_neg h1, if_pos h2, gp_0_3 hG, Option.bind_some, k1, hch]
        · unfold f_X12_walk
          simp only [m1, Option.bind_some, m4, if_neg h0, if_neg h1, if_pos h2]
      · obtain ⟨J2, K2, m1, m2, m3, m4⟩ := hm I L h rfl
        refine ⟨(-1, I, L), (-1, J2, K2), ?_, ?_, rfl, m2.1.up⟩
        · unfold f_X11_walk
          simp only [z0, if_neg h0, if_neg h1, if_neg h2]
        · unfold f_X12_walk
          simp only [m1, Option.bind_some, m4, if_neg h0, if_neg h1, if_neg h2]
