def q_M1 (T : Nat → Int32) (fx fy pw tx ty : Int32) (w : Nat) : List qW := if q_seeW T w = true then q_M T fx fy pw tx ty w else []
section Class7
variable {N : pN} {P : pR} {I : pI} {L : pL} {T : Nat → Int32} {fx fy pw tx ty : Int32}
theorem c_pt0 {za : Nat} {zp : qP} (h1 : c_pt L za = zp) : L za 0 = zp.1 ∧ L za 1 = zp.2.1 ∧ L za 2 = zp.2.2 := by
  subst h1
  exact ⟨rfl, rfl, rfl⟩
theorem c_sqTo {za zb : Nat} {x1 y1 w1 x2 y2 w2 : Int64} (h1 : c_pt L za = (x1, y1, w1)) (h2 : c_pt L zb = (x2, y2, w2)) : f_X6_squareTo L za zb = some (q_sq (x1 - x2) (y1 - y2)).toInt32 := by
  obtain ⟨a0, a1, a2⟩ := c_pt0 h1
  obtain ⟨b0, b1, b2⟩ := c_pt0 h2
  unfold f_X6_squareTo
  rw [a0, a1, b0, b1]
  rfl
theorem c_ptk {K : pL} {za : Nat} (h1 : K za = L za) : c_pt K za = c_pt L za := by
  unfold c_pt
  rw [h1]
theorem c_mirrors (hG : GW N P) (hwf : q_wfs T) (hf1 : rg fx 20) (hf2 : rg fy 20) (ht1 : rg tx 20) (ht2 : rg ty 20) (hpw : rg pw 9999) (hc : c_cs I L T fx fy pw tx ty) {l : List qW} (hF : q_FR N P I l) (hlen : l.length ≤ 1) {zn : Nat} (hn : 12 < zn) : ∃ J K, f_X2_searchMirrors zn N I L P 21 = some (J, K) ∧ q_FR N P J (l ++ q_cat (q_M1 T fx fy pw tx ty) 12) ∧ c_fr I J ∧ c_lf L K := by
  have g1 : P 21 1 = some 22 := gp_21_1 hG
  have g2 : P 21 2 = some 23 := gp_21_2 hG
  have g3 : P 21 3 = some 24 := gp_21_3 hG
  have g5 : P 21 5 = some 26 := gp_21_5 hG
  have hloop := p_loopI (B := B_X2_searchMirrors_5 zn N P 21) (zJ := fun zk (zs : (Option Nat) × pI × pL) => zs.1 = c_at zk ∧ q_FR N P zs.2.1 (l ++ q_cat (q_M1 T fx fy pw tx ty) zk) ∧ c_fr I zs.2.1 ∧ c_lf L zs.2.2) (zE := fun (zt : pI × pL) => q_FR N P zt.1 (l ++ q_cat (q_M1 T fx fy pw tx ty) 12) ∧ c_fr I zt.1 ∧ c_lf L zt.2) (zm := 12) (zn := zn) hn ?_ ?_ (P 21 0, I, L) ⟨gp_21_0 hG, by show q_FR N P I (l ++ []); rw [List.append_nil]; exact hF, c_fr.rf, c_lf.rf⟩
  · obtain ⟨⟨J, K⟩, k1, k2, k3, k4⟩ := hloop
    refine ⟨J, K, ?_, k2, k3, k4⟩
    unfold f_X2_searchMirrors
    rw [k1, Option.bind_some]
  · rintro zk hk ⟨zr, J, K⟩ ⟨e1, e2, e3, e4⟩
    dsimp only at e1 e2 e3 e4
    have ecs : zr = some (43 - zk) := by rw [e1]; unfold c_at; rw [if_pos hk]
    subst ecs
    left
    have hcJ := hc.fr e3 e4
    obtain ⟨hB, h12, hp22, hp23⟩ := id hcJ
    obtain ⟨u0, u1, u2⟩ := c_pt0 hp22
    have hBk := hB zk hk
    have hat : P (43 - zk) 1 = c_at (zk + 1) := c_next hG hk
    have hcat : q_cat (q_M1 T fx fy pw tx ty) (zk + 1) = q_cat (q_M1 T fx fy pw tx ty) zk ++ q_M1 T fx fy pw tx ty zk := rfl
    have hlc : (q_cat (q_M1 T fx fy pw tx ty) zk).length ≤ 1 * zk := q_cat_len zk (fun zv _ => by
      unfold q_M1
      split
      · exact q_M_len
      · exact Nat.zero_le _)
    cases hsee : q_seeW T zk with
    | false =>
      rw [hsee] at hBk
      have hst0 : J (43 - zk) 2 = 0 := by rw [hBk.1]; rfl
      obtain ⟨K1, k1, k2⟩ := c_mirror_any (I := J) (L := K) (zb := 43 - zk) (a0 := 24) (a1 := 22)
      refine ⟨(c_at (zk + 1), J, K1), ⟨rfl, ?_, e3, e4.tr (fun zx hx => k2 zx (by omega))⟩, fun zrec => ?_⟩
      · rw [hcat]
        unfold q_M1
        rw [hsee, if_neg (by decide), List.append_nil]
        exact e2
      · unfold B_X2_searchMirrors_5 p_cs
        dsimp only
        rw [g3, Option.bind_some, g1, Option.bind_some, k1, Option.bind_some, if_pos hst0, Option.bind_some, hat]
    | true =>
      rw [hsee] at hBk
      have hst1 : ¬ J (43 - zk) 2 = 0 := by rw [hBk.1]; decide
      obtain ⟨hb1, hb2, hb3⟩ := hBk.2 rfl
      have hr := hwf.2 zk hsee
      have bfx := (sb_rg hf1 (by decide)).2
      have bfy := (sb_rg hf2 (by decide)).2
      have btx := (sb_rg ht1 (by decide)).2
      have bty := (sb_rg ht2 (by decide)).2
      have hmir := c_mirror (L := K) (a0 := 24) (a1 := 22) hb1 (by decide) u2
      rw [u0, u1] at hmir
      dsimp only at hmir
      have himg : q_meet T zk (q_mx T zk fx.toInt64, q_my T zk fy.toInt64, 1) (tx.toInt64, ty.toInt64, 1) = (q_alk (q_side T zk fx.toInt64 fy.toInt64 1) (q_side T zk tx.toInt64 ty.toInt64 1) && q_hit T zk (q_over T zk (q_mx T zk fx.toInt64, q_my T zk fy.toInt64, 1) (tx.toInt64, ty.toInt64, 1))) := q_meet_img hr bfx bfy (by decide)
      have hopp : q_opp (q_side T zk (q_mx T zk fx.toInt64) (q_my T zk fy.toInt64) 1) (q_side T zk tx.toInt64 ty.toInt64 1) = q_alk (q_side T zk fx.toInt64 fy.toInt64 1) (q_side T zk tx.toInt64 ty.toInt64 1) := by
        rw [q_neg_side]
        have hb9 := sb_side hr bfx bfy (by decide)
        exact q_flip ⟨by have := hb9.1; omega, by have := hb9.2; omega⟩
      generalize hK1 : c_putO K 24 (q_mx T zk fx.toInt64, q_my T zk fy.toInt64, 1) = K1 at hmir
      have p24 : c_pt K1 24 = (q_mx T zk fx.toInt64, q_my T zk fy.toInt64, 1) := by rw [← hK1]; exact c_pt_s
      have n24 : ∀ zx, zx ≠ 24 → K1 zx = K zx := fun zx hx => by rw [← hK1]; exact c_putO_n hx
      have p23 : c_pt K1 23 = (tx.toInt64, ty.toInt64, 1) := (c_ptk (n24 23 (by decide))).trans hp23
      obtain ⟨v0, v1, v2⟩ := c_pt0 p24
      obtain ⟨w0, w1, w2⟩ := c_pt0 p23
      have hmt := c_meets (L := K1) (a1 := 24) (a2 := 23) (a3 := 26) hb1 (by decide) (by decide)
      rw [p24, p23, himg, v0, v1, v2, w0, w1, w2] at hmt
      dsimp only at hmt
      rw [hopp] at hmt
      cases hal : q_alk (q_side T zk fx.toInt64 fy.toInt64 1) (q_side T zk tx.toInt64 ty.toInt64 1) with
      | false =>
        rw [hal, Bool.false_and, if_neg (by decide)] at hmt
        refine ⟨(c_at (zk + 1), J, K1), ⟨rfl, ?_, e3, e4.tr (fun zx hx => n24 zx (by omega))⟩, fun zrec => ?_⟩
        · rw [hcat]
          unfold q_M1 q_M
          rw [hsee, if_pos rfl, hal, if_neg (by decide), List.append_nil]
          exact e2
        · unfold B_X2_searchMirrors_5 p_cs
          dsimp only
          rw [g3, Option.bind_some, g1, Option.bind_some, hmir, Option.bind_some, if_neg hst1, Option.bind_some, g2, Option.bind_some, g5, Option.bind_some, hmt, Option.bind_some]
          dsimp only
          rw [bI_iff, Option.bind_some, hat]
      | true =>
        rw [hal, Bool.true_and, if_pos rfl] at hmt
        generalize hzo : q_over T zk (q_mx T zk fx.toInt64, q_my T zk fy.toInt64, 1) (tx.toInt64, ty.toInt64, 1) = zo at hmt
        generalize hK2 : c_putO K1 26 zo = K2 at hmt
        have p26 : c_pt K2 26 = zo := by rw [← hK2]; exact c_pt_s
        have n26 : ∀ zx, zx ≠ 26 → K2 zx = K1 zx := fun zx hx => by rw [← hK2]; exact c_putO_n hx
        cases hh : q_hit T zk zo with
        | false =>
          rw [hh] at hmt
          refine ⟨(c_at (zk + 1), J, K2), ⟨rfl, ?_, e3, e4.tr (fun zx hx => (n26 zx (by omega)).trans (n24 zx (by omega)))⟩, fun zrec => ?_⟩
          · rw [hcat]
            unfold q_M1 q_M
            rw [hsee, if_pos rfl, hal, if_pos rfl, hzo, hh, if_neg (by decide), List.append_nil]
            exact e2
          · unfold B_X2_searchMirrors_5 p_cs
            dsimp only
            rw [g3, Option.bind_some, g1, Option.bind_some, hmir, Option.bind_some, if_neg hst1, Option.bind_some, g2, Option.bind_some, g5, Option.bind_some, hmt, Option.bind_some]
            dsimp only
            rw [bI_iff, Option.bind_some, hat]
        | true =>
          rw [hh] at hmt
          have p24b : c_pt K2 24 = (q_mx T zk fx.toInt64, q_my T zk fy.toInt64, 1) := (c_ptk (n26 24 (by decide))).trans p24
          have p23b : c_pt K2 23 = (tx.toInt64, ty.toInt64, 1) := (c_ptk (n26 23 (by decide))).trans p23
          have p22b : c_pt K2 22 = (fx.toInt64, fy.toInt64, 1) := (c_ptk ((n26 22 (by decide)).trans (n24 22 (by decide)))).trans hp22
          have hsq := c_sqTo p24b p23b
          have bd1 := (sb_sub (sb_mx hr bfx (by decide)) btx (by decide)).2
          have bd2 := (sb_sub (sb_my hr bfy (by decide)) bty (by decide)).2
          obtain ⟨zs, hs1, hs2⟩ := q_sqS (m := 80) bd1 bd2 (by decide) (by decide)
          have hzs : zs ≤ 12800 := by
            have h9 : (2 : Int) * (80 * 80) = 12800 := by decide
            omega
          rw [hs2, lN_i] at hsq
          have hpn : J 21 12 = nI (nv pw) := h12.trans hpw.1
          obtain ⟨s1, s2⟩ := c_spread (I := J) (zd := zs) hpn hpw.2 (by omega)
          rw [← hpw.1] at s1 s2
          obtain ⟨y1, y2⟩ := c_weak s2 rfl hb3
          dsimp only at y1 y2
          have hb7 : J (43 - zk) 7 = q_bck T zk := hb1.2.2.2.2.2.1
          obtain ⟨K3, k1, k2, k3⟩ := c_carryS (L := K2) hG hB hwf.1 y2 (a2 := 22) (a3 := 26) (by decide) (by decide) hn
          rw [p22b, p26] at k1 k3
          have p26c : c_pt K3 26 = zo := (c_ptk (k2 26 (by decide))).trans p26
          have p23c : c_pt K3 23 = (tx.toInt64, ty.toInt64, 1) := (c_ptk (k2 23 (by decide))).trans p23b
          obtain ⟨K4, j1, j2, j3⟩ := c_carryS (L := K3) hG hB hwf.1 k3 (a2 := 26) (a3 := 23) (by decide) (by decide) hn
          rw [p26c, p23c] at j1 j3
          obtain ⟨J2, i1, i2, i3⟩ := c_keep (k1 := nI 1) (f1 := nI zk) (g1 := -1) (a1 := q_sq (q_mx T zk fx.toInt64 - tx.toInt64) (q_my T zk fy.toInt64 - ty.toInt64)) (c1 := 0) hG e2 (by rw [List.length_append]; omega) j3
          have e0 : (0 : Int64).toInt32 = nI 0 := by decide
          rw [e0] at i1
          have hA : (q_sq (q_mx T zk fx.toInt64 - tx.toInt64) (q_my T zk fy.toInt64 - ty.toInt64)).toInt32 = nI zs := by rw [hs2, lN_i]
          rw [hA] at i1
          have hb0 : J (43 - zk) 0 = nI zk := hb1.1
          refine ⟨(c_at (zk + 1), J2, K4), ⟨rfl, ?_, e3.tr i3, fun zx hx => ?_⟩, fun zrec => ?_⟩
          · rw [hcat]
            unfold q_M1 q_M
            rw [hsee, if_pos rfl, hal, if_pos rfl, hzo, hh, if_pos rfl, ← List.append_assoc, ← q_add_nil, hs2]
            rw [hs2] at i2
            exact i2
          · dsimp only
            rw [j2 zx (by omega), k2 zx (by omega), n26 zx (by omega), n24 zx (by omega)]
            exact e4 zx hx
          · unfold B_X2_searchMirrors_5 p_cs
            dsimp only
            rw [g3, Option.bind_some, g1, Option.bind_some, hmir, Option.bind_some, if_neg hst1, Option.bind_some, g2, Option.bind_some, g5, Option.bind_some, hmt, Option.bind_some]
            dsimp only
            rw [bI_ift, Option.bind_some, Option.bind_some, hsq, Option.bind_some, s1, Option.bind_some, n_let, hb7, y1, Option.bind_some, Option.bind_some, k1, Option.bind_some]
            dsimp only
            rw [Option.bind_some, Option.bind_some, j1, Option.bind_some]
            dsimp only
            rw [hb0, i1, Option.bind_some, Option.bind_some, hat]
  · rintro ⟨zr, J, K⟩ ⟨e1, e2, e3, e4⟩
    dsimp only at e1 e2 e3 e4
    have ecs : zr = none := by rw [e1]; rfl
    subst ecs
    refine ⟨(J, K), ⟨e2, e3, e4⟩, fun zrec => ?_⟩
    unfold B_X2_searchMirrors_5 p_cs
    dsimp only
end Class7
