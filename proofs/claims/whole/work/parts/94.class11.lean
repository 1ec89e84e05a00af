section Class11
variable {N : pN} {P : pR} {I : pI} {L : pL} {T : Nat → Int32} {fx fy pw tx ty : Int32}
/-- an end of a wall that is seen -/
theorem c_corner1 (hG : GW N P) (hwf : q_wfs T) (hu : q_wfu T) (hf1 : rg fx 20) (hf2 : rg fy 20) (ht1 : rg tx 20) (ht2 : rg ty 20) (hpw : rg pw 9999) (hbd : rg (T 12) 100) (hbI : I 21 11 = T 12) (hc : c_cs I L T fx fy pw tx ty) {zw : Nat} (hw : zw < 12) (hsee : q_seeW T zw = true) {l : List qW} (hF : q_FR N P I l) (hlen : l.length < 169) {ze : Nat} (he : ze < 2) {zn : Nat} (hn : 16 < zn) : ∃ J K, (∀ zrec, B_X2_searchCorners_11 zn N P 21 (43 - zw) zrec (nI ze, I, L) = zrec (nI (ze + 1), J, K)) ∧ q_FR N P J (l ++ q_C T fx fy pw tx ty zw ze) ∧ c_fr I J ∧ c_lf L K := by
  have g1 : P 21 1 = some 22 := gp_21_1 hG
  have g2 : P 21 2 = some 23 := gp_21_2 hG
  have g5 : P 21 5 = some 26 := gp_21_5 hG
  obtain ⟨hB, h12, hp22, hp23⟩ := id hc
  have hBk := hB zw hw
  rw [hsee] at hBk
  have hst1 : ¬ I (43 - zw) 2 = 0 := by rw [hBk.1]; decide
  obtain ⟨hb1, hb2, hb3⟩ := hBk.2 rfl
  have hc2 : ¬ nI 2 ≤ nI ze := nI_ge he (by decide)
  have hput := c_putEnd (L := L) hb1 (hu zw hsee) he
  have r1 := hwf.2 zw hsee (2 * ze) (by omega)
  have r2 := hwf.2 zw hsee (2 * ze + 1) (by omega)
  unfold q_C
  generalize q_w T zw (2 * ze) = zx at hput r1
  generalize q_w T zw (2 * ze + 1) = zy at hput r2
  generalize hK1 : c_putO L 26 (zx.toInt64, zy.toInt64, 1) = K1 at hput
  have p26 : c_pt K1 26 = (zx.toInt64, zy.toInt64, 1) := by rw [← hK1]; exact c_pt_s
  have n26 : ∀ zq, zq ≠ 26 → K1 zq = L zq := fun zq hq => by rw [← hK1]; exact c_putO_n hq
  have p22 : c_pt K1 22 = (fx.toInt64, fy.toInt64, 1) := (c_ptk (n26 22 (by decide))).trans hp22
  have p23 : c_pt K1 23 = (tx.toInt64, ty.toInt64, 1) := (c_ptk (n26 23 (by decide))).trans hp23
  have hq1 := c_sqTo p22 p26
  have hq2 := c_sqTo p26 p23
  rw [q_difR hf1 r1, q_difR hf2 r2, q_sqE hf1 hf2 r1 r2, lN_i, q_dn_sym (za := fx), q_dn_sym (za := fy)] at hq1
  rw [q_difR r1 ht1, q_difR r2 ht2, q_sqE r1 r2 ht1 ht2, lN_i] at hq2
  rw [q_sqE r1 r2 hf1 hf2, q_sqE r1 r2 ht1 ht2]
  have ba1 := q_dn_b r1 hf1
  have ba2 := q_dn_b r2 hf2
  have bb1 := q_dn_b r1 ht1
  have bb2 := q_dn_b r2 ht2
  have za0 : q_dn zx fx + q_dn zy fy = 0 ↔ zx = fx ∧ zy = fy := by
    rw [← q_dn_0 r1 hf1, ← q_dn_0 r2 hf2]
    omega
  have zb0 : q_dn zx tx + q_dn zy ty = 0 ↔ zx = tx ∧ zy = ty := by
    rw [← q_dn_0 r1 ht1, ← q_dn_0 r2 ht2]
    omega
  have hza : q_dn zx fx + q_dn zy fy ≤ 800 := by omega
  have hzb : q_dn zx tx + q_dn zy ty ≤ 800 := by omega
  generalize q_dn zx fx + q_dn zy fy = za at hq1 za0 hza
  generalize q_dn zx tx + q_dn zy ty = zb at hq2 zb0 hzb
  by_cases c1 : za = 0
  · have hv : nI za = 0 := by rw [c1]; rfl
    refine ⟨I, K1, fun zrec => ?_, ?_, c_fr.rf, fun zq hq => n26 zq (by omega)⟩
    · unfold B_X2_searchCorners_11
      dsimp only
      rw [if_neg hc2, g5, Option.bind_some, hput, Option.bind_some, g1, Option.bind_some, Option.bind_some, hq1, Option.bind_some, Option.bind_some, g2, Option.bind_some, hq2, Option.bind_some, if_neg hst1, if_pos hv, Option.bind_some, nI_add]
    · rw [if_pos (Or.inl (za0.mp c1)), List.append_nil]
      exact hF
  · have hv : ¬ nI za = 0 := nI_ne0 (by omega) (by omega)
    by_cases c2 : zb = 0
    · have hv2 : nI zb = 0 := by rw [c2]; rfl
      refine ⟨I, K1, fun zrec => ?_, ?_, c_fr.rf, fun zq hq => n26 zq (by omega)⟩
      · unfold B_X2_searchCorners_11
        dsimp only
        rw [if_neg hc2, g5, Option.bind_some, hput, Option.bind_some, g1, Option.bind_some, Option.bind_some, hq1, Option.bind_some, Option.bind_some, g2, Option.bind_some, hq2, Option.bind_some, if_neg hst1, if_neg hv, if_pos hv2, Option.bind_some, nI_add]
      · rw [if_pos (Or.inr (Or.inl (zb0.mp c2))), List.append_nil]
        exact hF
    · have hv2 : ¬ nI zb = 0 := nI_ne0 (by omega) (by omega)
      have hear := c_earlier (zn := zn) hG hB hu hw p26 (by omega)
      cases hea : q_ea T zx zy zw with
      | true =>
        rw [hea] at hear
        refine ⟨I, K1, fun zrec => ?_, ?_, c_fr.rf, fun zq hq => n26 zq (by omega)⟩
        · unfold B_X2_searchCorners_11
          dsimp only
          rw [if_neg hc2, g5, Option.bind_some, hput, Option.bind_some, g1, Option.bind_some, Option.bind_some, hq1, Option.bind_some, Option.bind_some, g2, Option.bind_some, hq2, Option.bind_some, if_neg hst1, if_neg hv, if_neg hv2, hear, Option.bind_some, bI_ift, Option.bind_some, nI_add]
        · rw [if_pos (Or.inr (Or.inr rfl)), List.append_nil]
          exact hF
      | false =>
        rw [hea] at hear
        have hab : za * zb ≤ 800 * 800 := Nat.mul_le_mul hza hzb
        have hrt : q_rt (za * zb) ≤ 640000 := by
          have h9 := (q_rt_is (za * zb)).1
          by_cases hz9 : q_rt (za * zb) = 0
          · omega
          · have h8 : q_rt (za * zb) * 1 ≤ q_rt (za * zb) * q_rt (za * zb) := Nat.mul_le_mul_left _ (by omega)
            omega
        have hroot := c_rootOf (zv := za * zb) (zn := zn) (by omega) hn
        have hsum : nI za + nI zb + nI 2 * nI (q_rt (za * zb)) = nI (za + zb + 2 * q_rt (za * zb)) := by rw [pk_mul, nI_add, nI_add]
        have hsum64 : lN za + lN zb + 2 * q_r64 (lN za * lN zb) = lN (za + zb + 2 * q_rt (za * zb)) := by
          rw [lN_mul, q_r64_N (by omega)]
          show lN za + lN zb + lN 2 * lN (q_rt (za * zb)) = _
          rw [lN_mul, lN_add, lN_add]
        rw [hsum64]
        have hpn : I 21 12 = nI (nv pw) := h12.trans hpw.1
        obtain ⟨s1, s2⟩ := c_spread (I := I) (zd := za + zb + 2 * q_rt (za * zb)) hpn hpw.2 (by omega)
        rw [← hpw.1] at s1 s2
        obtain ⟨y1, y2⟩ := c_weak s2 rfl hbd
        dsimp only at y1 y2
        obtain ⟨K2, k1, k2, k3⟩ := c_carryS (L := K1) hG hB hwf.1 y2 (a2 := 22) (a3 := 26) (by decide) (by decide) (zn := zn) (by omega)
        rw [p22, p26] at k1 k3
        have p26c : c_pt K2 26 = (zx.toInt64, zy.toInt64, 1) := (c_ptk (k2 26 (by decide))).trans p26
        have p23c : c_pt K2 23 = (tx.toInt64, ty.toInt64, 1) := (c_ptk (k2 23 (by decide))).trans p23
        obtain ⟨K3, j1, j2, j3⟩ := c_carryS (L := K2) hG hB hwf.1 k3 (a2 := 26) (a3 := 23) (by decide) (by decide) (zn := zn) (by omega)
        rw [p26c, p23c] at j1 j3
        obtain ⟨J2, i1, i2, i3⟩ := c_keep (k1 := nI 3) (f1 := nI zw) (g1 := nI ze) (a1 := lN za) (c1 := lN zb) hG hF hlen j3
        rw [lN_i, lN_i] at i1
        have hb0 : I (43 - zw) 0 = nI zw := hb1.1
        refine ⟨J2, K3, fun zrec => ?_, ?_, i3, fun zq hq => ?_⟩
        · unfold B_X2_searchCorners_11
          dsimp only
          rw [if_neg hc2, g5, Option.bind_some, hput, Option.bind_some, g1, Option.bind_some, Option.bind_some, hq1, Option.bind_some, Option.bind_some, g2, Option.bind_some, hq2, Option.bind_some, if_neg hst1, if_neg hv, if_neg hv2, hear, Option.bind_some, bI_iff, pk_mul, hroot, Option.bind_some, hsum, s1, Option.bind_some, n_let, hbI, y1, Option.bind_some, Option.bind_some, k1, Option.bind_some]
          dsimp only
          rw [Option.bind_some, Option.bind_some, j1, Option.bind_some]
          dsimp only
          rw [hb0, i1, Option.bind_some, Option.bind_some, nI_add]
        · rw [if_neg (fun hz => hz.elim (fun h => c1 (za0.mpr h)) (fun hz2 => hz2.elim (fun h => c2 (zb0.mpr h)) (fun hz3 => by cases hz3))), ← q_add_nil]
          exact i2
        · rw [j2 zq (by omega), k2 zq (by omega)]
          exact n26 zq (by omega)
end Class11
