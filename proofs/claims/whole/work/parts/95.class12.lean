section Class12
variable {N : pN} {P : pR} {I : pI} {L : pL} {T : Nat → Int32} {fx fy pw tx ty : Int32}
theorem c_putEnd_any {zb : Nat} {zx : Int32} : ∃ K, f_X0_putEnd I L zb zx 26 = some K ∧ ∀ zq, zq ≠ 26 → K zq = L zq := by
  have hput : ∀ z1 z2 : Int32, f_X6_put L 26 z1 z2 = some (c_putO L 26 (z1.toInt64, z2.toInt64, 1)) := fun z1 z2 => rfl
  unfold f_X0_putEnd
  simp only [n_let, hput, Option.bind_some]
  by_cases h1 : I zb 3 = 0
  · rw [if_pos h1, if_pos h1]
    exact ⟨_, rfl, fun zq hq => c_putO_n hq⟩
  · rw [if_neg h1, if_neg h1]
    exact ⟨_, rfl, fun zq hq => c_putO_n hq⟩
theorem c_corner0 (hG : GW N P) {zw : Nat} (hst0 : I (43 - zw) 2 = 0) {ze : Nat} (he : ze < 2) {zn : Nat} : ∃ K, (∀ zrec, B_X2_searchCorners_11 zn N P 21 (43 - zw) zrec (nI ze, I, L) = zrec (nI (ze + 1), I, K)) ∧ c_lf L K := by
  have hc2 : ¬ nI 2 ≤ nI ze := nI_ge he (by decide)
  obtain ⟨K, k1, k2⟩ := c_putEnd_any (I := I) (L := L) (zb := 43 - zw) (zx := nI ze)
  refine ⟨K, fun zrec => ?_, fun zq hq => k2 zq (by omega)⟩
  unfold B_X2_searchCorners_11
  dsimp only
  rw [if_neg hc2, gp_21_5 hG, Option.bind_some, k1, Option.bind_some, gp_21_1 hG, Option.bind_some, Option.bind_some]
  unfold f_X6_squareTo
  rw [Option.bind_some, Option.bind_some, gp_21_2 hG, Option.bind_some, Option.bind_some, if_pos hst0, Option.bind_some, nI_add]
theorem c_two {zn zw : Nat} (hn : 2 < zn) {J1 J2 : pI} {K1 K2 : pL} (h0 : ∀ zrec, B_X2_searchCorners_11 zn N P 21 (43 - zw) zrec (nI 0, I, L) = zrec (nI (0 + 1), J1, K1)) (h1 : ∀ zrec, B_X2_searchCorners_11 zn N P 21 (43 - zw) zrec (nI 1, J1, K1) = zrec (nI (1 + 1), J2, K2)) : p_it (B_X2_searchCorners_11 zn N P 21 (43 - zw)) zn (nI 0, I, L) = some (J2, K2) := by
  have hm : ∀ zm, 2 < zm → p_it (B_X2_searchCorners_11 zn N P 21 (43 - zw)) zm (nI 0, I, L) = some (J2, K2) := by
    intro zm hm1
    obtain ⟨z2, rfl⟩ : ∃ z2, zm = z2 + 3 := ⟨zm - 3, by omega⟩
    show B_X2_searchCorners_11 zn N P 21 (43 - zw) (p_it (B_X2_searchCorners_11 zn N P 21 (43 - zw)) (z2 + 2)) (nI 0, I, L) = _
    rw [h0]
    show B_X2_searchCorners_11 zn N P 21 (43 - zw) (p_it (B_X2_searchCorners_11 zn N P 21 (43 - zw)) (z2 + 1)) (nI 1, J1, K1) = _
    rw [h1]
    show B_X2_searchCorners_11 zn N P 21 (43 - zw) (p_it (B_X2_searchCorners_11 zn N P 21 (43 - zw)) z2) (nI 2, J2, K2) = _
    unfold B_X2_searchCorners_11
    dsimp only
    rw [if_pos (Int32.le_refl _)]
  exact hm zn hn
theorem c_corners (hG : GW N P) (hwf : q_wfs T) (hu : q_wfu T) (hf1 : rg fx 20) (hf2 : rg fy 20) (ht1 : rg tx 20) (ht2 : rg ty 20) (hpw : rg pw 9999) (hbd : rg (T 12) 100) (hbI : I 21 11 = T 12) (hc : c_cs I L T fx fy pw tx ty) {l : List qW} (hF : q_FR N P I l) (hlen : l.length ≤ 145) {zn : Nat} (hn : 16 < zn) : ∃ J K, f_X2_searchCorners zn N I L P 21 = some (J, K) ∧ q_FR N P J (l ++ q_cat (q_Cs T fx fy pw tx ty) 12) ∧ c_fr I J ∧ c_lf L K := by
  have g0 : P 21 0 = some 43 := gp_21_0 hG
  have hloop := p_loopI (B := B_X2_searchCorners_5 zn N P 21) (zJ := fun zk (zs : (Option Nat) × pI × pL) => zs.1 = c_at zk ∧ q_FR N P zs.2.1 (l ++ q_cat (q_Cs T fx fy pw tx ty) zk) ∧ c_fr I zs.2.1 ∧ c_lf L zs.2.2) (zE := fun (zt : pI × pL) => q_FR N P zt.1 (l ++ q_cat (q_Cs T fx fy pw tx ty) 12) ∧ c_fr I zt.1 ∧ c_lf L zt.2) (zm := 12) (zn := zn) (by omega) ?_ ?_ (P 21 0, I, L) ⟨g0, by show q_FR N P I (l ++ []); rw [List.append_nil]; exact hF, c_fr.rf, c_lf.rf⟩
  · obtain ⟨⟨J, K⟩, k1, k2, k3, k4⟩ := hloop
    refine ⟨J, K, ?_, k2, k3, k4⟩
    unfold f_X2_searchCorners
    rw [k1, Option.bind_some]
  · rintro zk hk ⟨zr, J, K⟩ ⟨e1, e2, e3, e4⟩
    dsimp only at e1 e2 e3 e4
    have ecs : zr = some (43 - zk) := by rw [e1]; unfold c_at; rw [if_pos hk]
    subst ecs
    left
    have hcJ := hc.fr e3 e4
    have hB := hcJ.1
    have hBk := hB zk hk
    have hbJ : J 21 11 = T 12 := (e3.2 11 (by decide)).trans hbI
    have hat : P (43 - zk) 1 = c_at (zk + 1) := c_next hG hk
    have hcat : q_cat (q_Cs T fx fy pw tx ty) (zk + 1) = q_cat (q_Cs T fx fy pw tx ty) zk ++ q_Cs T fx fy pw tx ty zk := rfl
    have hlc : (q_cat (q_Cs T fx fy pw tx ty) zk).length ≤ 2 * zk := q_cat_len zk (fun zv hv => q_Cs_len)
    cases hsee : q_seeW T zk with
    | false =>
      rw [hsee] at hBk
      have hst0 : J (43 - zk) 2 = 0 := by rw [hBk.1]; rfl
      obtain ⟨K1, k1, k2⟩ := c_corner0 (I := J) (L := K) (zn := zn) hG hst0 (show 0 < 2 by decide)
      obtain ⟨K2, j1, j2⟩ := c_corner0 (I := J) (L := K1) (zn := zn) hG hst0 (show 1 < 2 by decide)
      have hin := c_two (by omega) k1 j1
      refine ⟨(c_at (zk + 1), J, K2), ⟨rfl, ?_, e3, (e4.tr k2).tr j2⟩, fun zrec => ?_⟩
      · rw [hcat]
        unfold q_Cs
        rw [hsee, if_neg (by decide), List.append_nil]
        exact e2
      · unfold B_X2_searchCorners_5 p_cs
        dsimp only
        rw [hin, Option.bind_some, hat]
    | true =>
      obtain ⟨J1, K1, k1, k2, k3, k4⟩ := c_corner1 (ze := 0) hG hwf hu hf1 hf2 ht1 ht2 hpw hbd hbJ hcJ hk hsee e2 (by rw [List.length_append]; omega) (by decide) hn
      have hcJ1 := hcJ.fr k3 k4
      have hbJ1 : J1 21 11 = T 12 := (k3.2 11 (by decide)).trans hbJ
      obtain ⟨J2, K2, j1, j2, j3, j4⟩ := c_corner1 (ze := 1) hG hwf hu hf1 hf2 ht1 ht2 hpw hbd hbJ1 hcJ1 hk hsee k2 (by
        have h1 := q_C_len (T := T) (fx := fx) (fy := fy) (pw := pw) (tx := tx) (ty := ty) (zw := zk) (ze := 0)
        rw [List.length_append, List.length_append]
        omega) (by decide) hn
      have hin := c_two (by omega) k1 j1
      refine ⟨(c_at (zk + 1), J2, K2), ⟨rfl, ?_, (e3.tr k3).tr j3, (e4.tr k4).tr j4⟩, fun zrec => ?_⟩
      · rw [hcat]
        unfold q_Cs
        rw [hsee, if_pos rfl, ← List.append_assoc, ← List.append_assoc]
        exact j2
      · unfold B_X2_searchCorners_5 p_cs
        dsimp only
        rw [hin, Option.bind_some, hat]
  · rintro ⟨zr, J, K⟩ ⟨e1, e2, e3, e4⟩
    dsimp only at e1 e2 e3 e4
    have ecs : zr = none := by rw [e1]; rfl
    subst ecs
    refine ⟨(J, K), ⟨e2, e3, e4⟩, fun zrec => ?_⟩
    unfold B_X2_searchCorners_5 p_cs
    dsimp only
end Class12
/-- all ways, as the class finds them -/
def q_allC (T : Nat → Int32) (fx fy pw tx ty : Int32) : List qW := ((q_S T fx fy pw tx ty ++ (if T 11 ≤ 0 then [] else q_cat (q_M1 T fx fy pw tx ty) 12)) ++ (if T 11 ≤ nI 1 then [] else q_cat (q_PP T fx fy pw tx ty) 12)) ++ (if (q_sg T fx fy pw tx ty).2 = false ∨ T 12 ≤ 0 then [] else q_cat (q_Cs T fx fy pw tx ty) 12)
