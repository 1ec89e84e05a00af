/-! the class: two mirrors -/
section Class8
variable {N : pN} {P : pR} {I : pI} {L : pL} {T : Nat → Int32} {fx fy pw tx ty : Int32}
theorem q_P1_len {zw : Nat} : ∀ zk, (q_cat (q_P1 T fx fy pw tx ty zw) zk).length ≤ if zw < zk then zk - 1 else zk := by
  intro zk
  induction zk with
  | zero => exact Nat.zero_le _
  | succ zk ih =>
    show (q_cat (q_P1 T fx fy pw tx ty zw) zk ++ q_P1 T fx fy pw tx ty zw zk).length ≤ _
    rw [List.length_append]
    by_cases he : zk = zw
    · have h0 : q_P1 T fx fy pw tx ty zw zk = [] := by unfold q_P1; rw [if_pos he]
      rw [h0, if_pos (by omega)]
      rw [if_neg (by omega)] at ih
      show _ + 0 ≤ _
      omega
    · have h1 : (q_P1 T fx fy pw tx ty zw zk).length ≤ 1 := by
        unfold q_P1
        split
        · exact Nat.zero_le _
        · split
          · exact q_P_len
          · exact Nat.zero_le _
      by_cases hlt : zw < zk
      · rw [if_pos hlt] at ih
        rw [if_pos (by omega)]
        omega
      · rw [if_neg hlt] at ih
        rw [if_neg (by omega)]
        omega
theorem c_pairs1 (hG : GW N P) (hwf : q_wfs T) (hf1 : rg fx 20) (hf2 : rg fy 20) (ht1 : rg tx 20) (ht2 : rg ty 20) (hpw : rg pw 9999) (hc : c_cs I L T fx fy pw tx ty) {zw : Nat} (hw : zw < 12) (hsw : q_seeW T zw = true) (h24 : c_pt L 24 = (q_mx T zw fx.toInt64, q_my T zw fy.toInt64, 1)) {l : List qW} (hF : q_FR N P I l) (hlen : l.length ≤ 156) {zn : Nat} (hn : 12 < zn) : ∃ J K, p_it (B_X2_searchPairs_26 zn N P 21 (43 - zw)) zn (some 43, I, L) = some (J, K) ∧ q_FR N P J (l ++ q_cat (q_P1 T fx fy pw tx ty zw) 12) ∧ c_fr I J ∧ c_lf L K := by
  have g1 : P 21 1 = some 22 := gp_21_1 hG
  have g2 : P 21 2 = some 23 := gp_21_2 hG
  have g3 : P 21 3 = some 24 := gp_21_3 hG
  have g4 : P 21 4 = some 25 := gp_21_4 hG
  have g5 : P 21 5 = some 26 := gp_21_5 hG
  have g6 : P 21 6 = some 27 := gp_21_6 hG
  have bfx := (sb_rg hf1 (by decide)).2
  have bfy := (sb_rg hf2 (by decide)).2
  have btx := (sb_rg ht1 (by decide)).2
  have bty := (sb_rg ht2 (by decide)).2
  have hrw := hwf.2 zw hsw
  have bmx := sb_mx hrw bfx (by decide)
  have bmy := sb_my hrw bfy (by decide)
  have hloop := p_loopI (B := B_X2_searchPairs_26 zn N P 21 (43 - zw)) (zJ := fun zk (zs : (Option Nat) × pI × pL) => zs.1 = c_at zk ∧ q_FR N P zs.2.1 (l ++ q_cat (q_P1 T fx fy pw tx ty zw) zk) ∧ c_fr I zs.2.1 ∧ c_lf L zs.2.2 ∧ zs.2.2 24 = L 24) (zE := fun (zt : pI × pL) => q_FR N P zt.1 (l ++ q_cat (q_P1 T fx fy pw tx ty zw) 12) ∧ c_fr I zt.1 ∧ c_lf L zt.2) (zm := 12) (zn := zn) hn ?_ ?_ (some 43, I, L) ⟨rfl, by show q_FR N P I (l ++ []); rw [List.append_nil]; exact hF, c_fr.rf, c_lf.rf, rfl⟩
  · obtain ⟨⟨J, K⟩, k1, k2, k3, k4⟩ := hloop
    exact ⟨J, K, k1, k2, k3, k4⟩
  · rintro zk hk ⟨zr, J, K⟩ ⟨e1, e2, e3, e4, e5⟩
    dsimp only at e1 e2 e3 e4 e5
    have ecs : zr = some (43 - zk) := by rw [e1]; unfold c_at; rw [if_pos hk]
    subst ecs
    left
    have hcJ := hc.fr e3 e4
    obtain ⟨hB, h12, hp22, hp23⟩ := id hcJ
    have hBw := hB zw hw
    rw [hsw] at hBw
    obtain ⟨hbw1, hbw2, hbw3⟩ := hBw.2 rfl
    have hstw : ¬ J (43 - zw) 2 = 0 := by rw [hBw.1]; decide
    have hBk := hB zk hk
    have hat : P (43 - zk) 1 = c_at (zk + 1) := c_next hG hk
    have p24K : c_pt K 24 = (q_mx T zw fx.toInt64, q_my T zw fy.toInt64, 1) := (c_ptk e5).trans h24
    obtain ⟨u0, u1, u2⟩ := c_pt0 p24K
    have hcat : q_cat (q_P1 T fx fy pw tx ty zw) (zk + 1) = q_cat (q_P1 T fx fy pw tx ty zw) zk ++ q_P1 T fx fy pw tx ty zw zk := rfl
    have hlc := q_P1_len (T := T) (fx := fx) (fy := fy) (pw := pw) (tx := tx) (ty := ty) (zw := zw) zk
    have hlc2 : (l ++ q_cat (q_P1 T fx fy pw tx ty zw) zk).length < 169 := by
      rw [List.length_append]
      split at hlc <;> omega
    by_cases hkw : zk = zw
    · have hadr : 43 - zk = 43 - zw := by rw [hkw]
      obtain ⟨K1, k1, k2⟩ := c_mirror_any (I := J) (L := K) (zb := 43 - zk) (a0 := 25) (a1 := 24)
      refine ⟨(c_at (zk + 1), J, K1), ⟨rfl, ?_, e3, e4.tr (fun zx hx => k2 zx (by omega)), (k2 24 (by decide)).trans e5⟩, fun zrec => ?_⟩
      · rw [hcat]
        unfold q_P1
        rw [if_pos hkw, List.append_nil]
        exact e2
      · unfold B_X2_searchPairs_26 p_cs
        dsimp only
        rw [if_neg hstw, g4, Option.bind_some, g3, Option.bind_some, k1, Option.bind_some, if_pos hadr, Option.bind_some, hat]
    · have hadr : ¬ 43 - zk = 43 - zw := by omega
      cases hsee : q_seeW T zk with
      | false =>
        rw [hsee] at hBk
        have hst0 : J (43 - zk) 2 = 0 := by rw [hBk.1]; rfl
        obtain ⟨K1, k1, k2⟩ := c_mirror_any (I := J) (L := K) (zb := 43 - zk) (a0 := 25) (a1 := 24)
        refine ⟨(c_at (zk + 1), J, K1), ⟨rfl, ?_, e3, e4.tr (fun zx hx => k2 zx (by omega)), (k2 24 (by decide)).trans e5⟩, fun zrec => ?_⟩
        · rw [hcat]
          unfold q_P1
          rw [if_neg hkw, hsee, if_neg (by decide), List.append_nil]
          exact e2
        · unfold B_X2_searchPairs_26 p_cs
          dsimp only
          rw [if_neg hstw, g4, Option.bind_some, g3, Option.bind_some, k1, Option.bind_some, if_neg hadr, if_pos hst0, Option.bind_some, hat]
      | true =>
        rw [hsee] at hBk
        have hst1 : ¬ J (43 - zk) 2 = 0 := by rw [hBk.1]; decide
        obtain ⟨hb1, hb2, hb3⟩ := hBk.2 rfl
        have hr := hwf.2 zk hsee
        have hmir := c_mirror (L := K) (a0 := 25) (a1 := 24) hb1 (by decide) u2
        rw [u0, u1] at hmir
        dsimp only at hmir
        have himg := q_meet_img (zt := (tx.toInt64, ty.toInt64, 1)) hr bmx bmy (by decide)
        have hopp : q_opp (q_side T zk (q_mx T zk (q_mx T zw fx.toInt64)) (q_my T zk (q_my T zw fy.toInt64)) 1) (q_side T zk tx.toInt64 ty.toInt64 1) = q_alk (q_side T zk (q_mx T zw fx.toInt64) (q_my T zw fy.toInt64) 1) (q_side T zk tx.toInt64 ty.toInt64 1) := by
          rw [q_neg_side]
          have hb9 := sb_side hr bmx bmy (by decide)
          exact q_flip ⟨by have := hb9.1; omega, by have := hb9.2; omega⟩
        dsimp only at himg
        have himgw := fun zt : qP => q_meet_img (zt := zt) hrw bfx bfy (by decide)
        have hoppw : ∀ zt : Int64, q_opp (q_side T zw (q_mx T zw fx.toInt64) (q_my T zw fy.toInt64) 1) zt = q_alk (q_side T zw fx.toInt64 fy.toInt64 1) zt := by
          intro zt
          rw [q_neg_side]
          have hb9 := sb_side hrw bfx bfy (by decide)
          exact q_flip ⟨by have := hb9.1; omega, by have := hb9.2; omega⟩
        have bd1 := (sb_sub (sb_mx hr bmx (by decide)) btx (by decide)).2
        have bd2 := (sb_sub (sb_my hr bmy (by decide)) bty (by decide)).2
        have hP1 : q_P1 T fx fy pw tx ty zw zk = q_P T fx fy pw tx ty zw zk := by
          unfold q_P1
          rw [if_neg hkw, hsee, if_pos rfl]
        generalize hmx : q_mx T zw fx.toInt64 = zx1 at hmir himg hopp himgw hoppw bd1 p24K u0
        generalize hmy : q_my T zw fy.toInt64 = zy1 at hmir himg hopp himgw hoppw bd2 p24K u1
        generalize hK1 : c_putO K 25 (q_mx T zk zx1, q_my T zk zy1, 1) = K1 at hmir
        have p25 : c_pt K1 25 = (q_mx T zk zx1, q_my T zk zy1, 1) := by rw [← hK1]; exact c_pt_s
        have n25 : ∀ zx, zx ≠ 25 → K1 zx = K zx := fun zx hx => by rw [← hK1]; exact c_putO_n hx
        have p23 : c_pt K1 23 = (tx.toInt64, ty.toInt64, 1) := (c_ptk (n25 23 (by decide))).trans hp23
        have p24 : c_pt K1 24 = (zx1, zy1, 1) := (c_ptk (n25 24 (by decide))).trans p24K
        obtain ⟨v0, v1, v2⟩ := c_pt0 p25
        obtain ⟨w0, w1, w2⟩ := c_pt0 p23
        have hmt := c_meets (L := K1) (a1 := 25) (a2 := 23) (a3 := 27) hb1 (by decide) (by decide)
        rw [p25, p23, himg, v0, v1, v2, w0, w1, w2] at hmt
        dsimp only at hmt
        rw [hopp] at hmt
        have hPd : q_P T fx fy pw tx ty zw zk = q_P T fx fy pw tx ty zw zk := rfl
        unfold q_P at hPd
        rw [hmx, hmy] at hPd
        cases hal : q_alk (q_side T zk zx1 zy1 1) (q_side T zk tx.toInt64 ty.toInt64 1) with
        | false =>
          rw [hal, Bool.false_and, if_neg (by decide)] at hmt
          rw [hal, if_neg (by decide)] at hPd
          refine ⟨(c_at (zk + 1), J, K1), ⟨rfl, ?_, e3, e4.tr (fun zx hx => n25 zx (by omega)), (n25 24 (by decide)).trans e5⟩, fun zrec => ?_⟩
          · rw [hcat, hP1]
            unfold q_P
            rw [hmx, hmy, hal, if_neg (by decide), List.append_nil]
            exact e2
          · unfold B_X2_searchPairs_26 p_cs
            dsimp only
            rw [if_neg hstw, g4, Option.bind_some, g3, Option.bind_some, hmir, Option.bind_some, if_neg hadr, if_neg hst1, Option.bind_some, g2, Option.bind_some, g6, Option.bind_some, hmt, Option.bind_some]
            dsimp only
            rw [bI_iff, Option.bind_some, hat]
        | true =>
          rw [hal, Bool.true_and, if_pos rfl] at hmt
          generalize hzo : q_over T zk (q_mx T zk zx1, q_my T zk zy1, 1) (tx.toInt64, ty.toInt64, 1) = zo at hmt
          generalize hK2 : c_putO K1 27 zo = K2 at hmt
          have p27 : c_pt K2 27 = zo := by rw [← hK2]; exact c_pt_s
          have n27 : ∀ zx, zx ≠ 27 → K2 zx = K1 zx := fun zx hx => by rw [← hK2]; exact c_putO_n hx
          have p24b : c_pt K2 24 = (zx1, zy1, 1) := (c_ptk (n27 24 (by decide))).trans p24
          cases hh : q_hit T zk zo with
          | false =>
            rw [hh] at hmt
            refine ⟨(c_at (zk + 1), J, K2), ⟨rfl, ?_, e3, e4.tr (fun zx hx => (n27 zx (by omega)).trans (n25 zx (by omega))), ((n27 24 (by decide)).trans (n25 24 (by decide))).trans e5⟩, fun zrec => ?_⟩
            · rw [hcat, hP1]
              unfold q_P
              rw [hmx, hmy, hal, if_pos rfl, hzo, hh, if_neg (by decide), List.append_nil]
              exact e2
            · unfold B_X2_searchPairs_26 p_cs
              dsimp only
              rw [if_neg hstw, g4, Option.bind_some, g3, Option.bind_some, hmir, Option.bind_some, if_neg hadr, if_neg hst1, Option.bind_some, g2, Option.bind_some, g6, Option.bind_some, hmt, Option.bind_some]
              dsimp only
              rw [bI_iff, Option.bind_some, hat]
          | true =>
            rw [hh] at hmt
            obtain ⟨x0, x1, x2⟩ := c_pt0 p24b
            obtain ⟨y0, y1, y2⟩ := c_pt0 p27
            have hmt2 := c_meets (L := K2) (a1 := 24) (a2 := 27) (a3 := 26) hbw1 (by decide) (by decide)
            rw [p24b, p27, himgw zo, x0, x1, x2, y0, y1, y2] at hmt2
            dsimp only at hmt2
            rw [hoppw] at hmt2
            cases hal2 : q_alk (q_side T zw fx.toInt64 fy.toInt64 1) (q_side T zw zo.1 zo.2.1 zo.2.2) with
            | false =>
              rw [hal2, Bool.false_and, if_neg (by decide)] at hmt2
              refine ⟨(c_at (zk + 1), J, K2), ⟨rfl, ?_, e3, e4.tr (fun zx hx => (n27 zx (by omega)).trans (n25 zx (by omega))), ((n27 24 (by decide)).trans (n25 24 (by decide))).trans e5⟩, fun zrec => ?_⟩
              · rw [hcat, hP1]
                unfold q_P
                rw [hmx, hmy, hal, if_pos rfl, hzo, hh, if_pos rfl, hal2, if_neg (by decide), List.append_nil]
                exact e2
              · unfold B_X2_searchPairs_26 p_cs
                dsimp only
                rw [if_neg hstw, g4, Option.bind_some, g3, Option.bind_some, hmir, Option.bind_some, if_neg hadr, if_neg hst1, Option.bind_some, g2, Option.bind_some, g6, Option.bind_some, hmt, Option.bind_some]
                dsimp only
                rw [bI_ift, Option.bind_some, Option.bind_some, g5, Option.bind_some, hmt2, Option.bind_some]
                dsimp only
                rw [bI_iff, Option.bind_some, hat]
            | true =>
              rw [hal2, Bool.true_and, if_pos rfl] at hmt2
              generalize hzp : q_over T zw (zx1, zy1, 1) zo = zp at hmt2
              generalize hK3 : c_putO K2 26 zp = K3 at hmt2
              have p26 : c_pt K3 26 = zp := by rw [← hK3]; exact c_pt_s
              have n26 : ∀ zx, zx ≠ 26 → K3 zx = K2 zx := fun zx hx => by rw [← hK3]; exact c_putO_n hx
              cases hh2 : q_hit T zw zp with
              | false =>
                rw [hh2] at hmt2
                refine ⟨(c_at (zk + 1), J, K3), ⟨rfl, ?_, e3, e4.tr (fun zx hx => (n26 zx (by omega)).trans ((n27 zx (by omega)).trans (n25 zx (by omega)))), ((n26 24 (by decide)).trans ((n27 24 (by decide)).trans (n25 24 (by decide)))).trans e5⟩, fun zrec => ?_⟩
                · rw [hcat, hP1]
                  unfold q_P
                  rw [hmx, hmy, hal, if_pos rfl, hzo, hh, if_pos rfl, hal2, if_pos rfl, hzp, hh2, if_neg (by decide), List.append_nil]
                  exact e2
                · unfold B_X2_searchPairs_26 p_cs
                  dsimp only
                  rw [if_neg hstw, g4, Option.bind_some, g3, Option.bind_some, hmir, Option.bind_some, if_neg hadr, if_neg hst1, Option.bind_some, g2, Option.bind_some, g6, Option.bind_some, hmt, Option.bind_some]
                  dsimp only
                  rw [bI_ift, Option.bind_some, Option.bind_some, g5, Option.bind_some, hmt2, Option.bind_some]
                  dsimp only
                  rw [bI_iff, Option.bind_some, hat]
              | true =>
                rw [hh2] at hmt2
                have q25 : c_pt K3 25 = (q_mx T zk zx1, q_my T zk zy1, 1) := (c_ptk ((n26 25 (by decide)).trans (n27 25 (by decide)))).trans p25
                have q23 : c_pt K3 23 = (tx.toInt64, ty.toInt64, 1) := (c_ptk ((n26 23 (by decide)).trans (n27 23 (by decide)))).trans p23
                have q22 : c_pt K3 22 = (fx.toInt64, fy.toInt64, 1) := (c_ptk ((n26 22 (by decide)).trans ((n27 22 (by decide)).trans (n25 22 (by decide))))).trans hp22
                have q27 : c_pt K3 27 = zo := (c_ptk (n26 27 (by decide))).trans p27
                have hsq := c_sqTo q25 q23
                obtain ⟨zs, hs1, hs2⟩ := q_sqS (m := 120) bd1 bd2 (by decide) (by decide)
                have hzs : zs ≤ 28800 := by
                  have h9 : (2 : Int) * (120 * 120) = 28800 := by decide
                  omega
                rw [hs2, lN_i] at hsq
                have hpn : J 21 12 = nI (nv pw) := h12.trans hpw.1
                obtain ⟨s1, s2⟩ := c_spread (I := J) (zd := zs) hpn hpw.2 (by omega)
                rw [← hpw.1] at s1 s2
                obtain ⟨r1, r2⟩ := c_weak s2 rfl hbw3
                dsimp only at r1 r2
                obtain ⟨t1, t2⟩ := c_weak r2 rfl hb3
                dsimp only at t1 t2
                have hb7 : J (43 - zk) 7 = q_bck T zk := hb1.2.2.2.2.2.1
                have hbw7 : J (43 - zw) 7 = q_bck T zw := hbw1.2.2.2.2.2.1
                obtain ⟨K4, k1, k2, k3⟩ := c_carryS (L := K3) hG hB hwf.1 t2 (a2 := 22) (a3 := 26) (by decide) (by decide) hn
                rw [q22, p26] at k1 k3
                have r26 : c_pt K4 26 = zp := (c_ptk (k2 26 (by decide))).trans p26
                have r27 : c_pt K4 27 = zo := (c_ptk (k2 27 (by decide))).trans q27
                obtain ⟨K5, j1, j2, j3⟩ := c_carryS (L := K4) hG hB hwf.1 k3 (a2 := 26) (a3 := 27) (by decide) (by decide) hn
                rw [r26, r27] at j1 j3
                have o27 : c_pt K5 27 = zo := (c_ptk (j2 27 (by decide))).trans r27
                have o23 : c_pt K5 23 = (tx.toInt64, ty.toInt64, 1) := (c_ptk ((j2 23 (by decide)).trans (k2 23 (by decide)))).trans q23
                obtain ⟨K6, m1, m2, m3⟩ := c_carryS (L := K5) hG hB hwf.1 j3 (a2 := 27) (a3 := 23) (by decide) (by decide) hn
                rw [o27, o23] at m1 m3
                obtain ⟨J2, i1, i2, i3⟩ := c_keep (k1 := nI 2) (f1 := nI zw) (g1 := nI zk) (a1 := q_sq (q_mx T zk zx1 - tx.toInt64) (q_my T zk zy1 - ty.toInt64)) (c1 := 0) hG e2 hlc2 m3
                have e0 : (0 : Int64).toInt32 = nI 0 := by decide
                have hA : (q_sq (q_mx T zk zx1 - tx.toInt64) (q_my T zk zy1 - ty.toInt64)).toInt32 = nI zs := by rw [hs2, lN_i]
                rw [e0, hA] at i1
                have hb0 : J (43 - zk) 0 = nI zk := hb1.1
                have hbw0 : J (43 - zw) 0 = nI zw := hbw1.1
                refine ⟨(c_at (zk + 1), J2, K6), ⟨rfl, ?_, e3.tr i3, fun zx hx => ?_, ?_⟩, fun zrec => ?_⟩
                · rw [hcat, hP1]
                  unfold q_P
                  rw [hmx, hmy, hal, if_pos rfl, hzo, hh, if_pos rfl, hal2, if_pos rfl, hzp, hh2, if_pos rfl, ← List.append_assoc, ← q_add_nil, hs2]
                  rw [hs2] at i2
                  exact i2
                · dsimp only
                  rw [m2 zx (by omega), j2 zx (by omega), k2 zx (by omega), n26 zx (by omega), n27 zx (by omega), n25 zx (by omega)]
                  exact e4 zx hx
                · dsimp only
                  rw [m2 24 (by decide), j2 24 (by decide), k2 24 (by decide), n26 24 (by decide), n27 24 (by decide), n25 24 (by decide)]
                  exact e5
                · unfold B_X2_searchPairs_26 p_cs
                  dsimp only
                  rw [if_neg hstw, g4, Option.bind_some, g3, Option.bind_some, hmir, Option.bind_some, if_neg hadr, if_neg hst1, Option.bind_some, g2, Option.bind_some, g6, Option.bind_some, hmt, Option.bind_some]
                  dsimp only
                  rw [bI_ift, Option.bind_some, Option.bind_some, g5, Option.bind_some, hmt2, Option.bind_some]
                  dsimp only
                  rw [bI_ift, Option.bind_some, Option.bind_some, hsq, Option.bind_some, s1, Option.bind_some, n_let, hbw7, hb7, r1, t1, g1, Option.bind_some, Option.bind_some, k1, Option.bind_some]
                  dsimp only
                  rw [Option.bind_some, Option.bind_some, j1, Option.bind_some]
                  dsimp only
                  rw [Option.bind_some, Option.bind_some, m1, Option.bind_some]
                  dsimp only
                  rw [hb0, hbw0, i1, Option.bind_some, Option.bind_some, hat]
  · rintro ⟨zr, J, K⟩ ⟨e1, e2, e3, e4, e5⟩
    dsimp only at e1 e2 e3 e4 e5
    have ecs : zr = none := by rw [e1]; rfl
    subst ecs
    refine ⟨(J, K), ⟨e2, e3, e4⟩, fun zrec => ?_⟩
    unfold B_X2_searchPairs_26 p_cs
    dsimp only
end Class8
