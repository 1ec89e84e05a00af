def q_PP (T : Nat → Int32) (fx fy pw tx ty : Int32) (w : Nat) : List qW := if q_seeW T w = true then q_cat (q_P1 T fx fy pw tx ty w) 12 else []
section Class9
variable {N : pN} {P : pR} {I : pI} {L : pL} {T : Nat → Int32} {fx fy pw tx ty : Int32}
theorem q_PP_len {zw : Nat} (hw : zw < 12) : (q_PP T fx fy pw tx ty zw).length ≤ 11 := by
  unfold q_PP
  split
  · have h1 := q_P1_len (T := T) (fx := fx) (fy := fy) (pw := pw) (tx := tx) (ty := ty) (zw := zw) 12
    rw [if_pos hw] at h1
    exact h1
  · exact Nat.zero_le _
theorem c_pairs (hG : GW N P) (hwf : q_wfs T) (hf1 : rg fx 20) (hf2 : rg fy 20) (ht1 : rg tx 20) (ht2 : rg ty 20) (hpw : rg pw 9999) (hc : c_cs I L T fx fy pw tx ty) {l : List qW} (hF : q_FR N P I l) (hlen : l.length ≤ 13) {zn : Nat} (hn : 12 < zn) : ∃ J K, f_X2_searchPairs zn N I L P 21 = some (J, K) ∧ q_FR N P J (l ++ q_cat (q_PP T fx fy pw tx ty) 12) ∧ c_fr I J ∧ c_lf L K := by
  have g0 : P 21 0 = some 43 := gp_21_0 hG
  have g1 : P 21 1 = some 22 := gp_21_1 hG
  have g3 : P 21 3 = some 24 := gp_21_3 hG
  have hloop := p_loopI (B := B_X2_searchPairs_5 zn N P 21) (zJ := fun zk (zs : (Option Nat) × pI × pL) => zs.1 = c_at zk ∧ q_FR N P zs.2.1 (l ++ q_cat (q_PP T fx fy pw tx ty) zk) ∧ c_fr I zs.2.1 ∧ c_lf L zs.2.2) (zE := fun (zt : pI × pL) => q_FR N P zt.1 (l ++ q_cat (q_PP T fx fy pw tx ty) 12) ∧ c_fr I zt.1 ∧ c_lf L zt.2) (zm := 12) (zn := zn) hn ?_ ?_ (P 21 0, I, L) ⟨g0, by show q_FR N P I (l ++ []); rw [List.append_nil]; exact hF, c_fr.rf, c_lf.rf⟩
  · obtain ⟨⟨J, K⟩, k1, k2, k3, k4⟩ := hloop
    refine ⟨J, K, ?_, k2, k3, k4⟩
    unfold f_X2_searchPairs
    rw [k1, Option.bind_some]
  · rintro zk hk ⟨zr, J, K⟩ ⟨e1, e2, e3, e4⟩
    dsimp only at e1 e2 e3 e4
    have ecs : zr = some (43 - zk) := by rw [e1]; unfold c_at; rw [if_pos hk]
    subst ecs
    left
    have hcJ := hc.fr e3 e4
    obtain ⟨hB, h12, hp22, hp23⟩ := id hcJ
    obtain ⟨u0, u1, u2⟩ := c_pt0 hp22
    have hBk := hB zk hk
    have hat : P (43 - zk) 1 = c_at (zk + 1) := c_next hG hk
    have hcat : q_cat (q_PP T fx fy pw tx ty) (zk + 1) = q_cat (q_PP T fx fy pw tx ty) zk ++ q_PP T fx fy pw tx ty zk := rfl
    have hlc : (q_cat (q_PP T fx fy pw tx ty) zk).length ≤ 11 * zk := q_cat_len zk (fun zv hv => q_PP_len (by omega))
    cases hsee : q_seeW T zk with
    | false =>
      rw [hsee] at hBk
      have hst0 : J (43 - zk) 2 = 0 := by rw [hBk.1]; rfl
      obtain ⟨K1, k1, k2⟩ := c_mirror_any (I := J) (L := K) (zb := 43 - zk) (a0 := 24) (a1 := 22)
      have hin : p_it (B_X2_searchPairs_26 zn N P 21 (43 - zk)) zn (some 43, J, K1) = some (J, K1) := by
        obtain ⟨zn2, rfl⟩ : ∃ zn2, zn = zn2 + 1 := ⟨zn - 1, by omega⟩
        show B_X2_searchPairs_26 (zn2 + 1) N P 21 (43 - zk) _ (some 43, J, K1) = _
        unfold B_X2_searchPairs_26 p_cs
        dsimp only
        rw [if_pos hst0]
      refine ⟨(c_at (zk + 1), J, K1), ⟨rfl, ?_, e3, e4.tr (fun zx hx => k2 zx (by omega))⟩, fun zrec => ?_⟩
      · rw [hcat]
        unfold q_PP
        rw [hsee, if_neg (by decide), List.append_nil]
        exact e2
      · unfold B_X2_searchPairs_5 p_cs
        dsimp only
        rw [g3, Option.bind_some, g1, Option.bind_some, k1, Option.bind_some, g0, hin, Option.bind_some, hat]
    | true =>
      rw [hsee] at hBk
      obtain ⟨hb1, hb2, hb3⟩ := hBk.2 rfl
      have hmir := c_mirror (L := K) (a0 := 24) (a1 := 22) hb1 (by decide) u2
      rw [u0, u1] at hmir
      dsimp only at hmir
      have hlf : c_lf K (c_putO K 24 (q_mx T zk fx.toInt64, q_my T zk fy.toInt64, 1)) := fun zx hx => c_putO_n (by omega)
      obtain ⟨J2, K2, k1, k2, k3, k4⟩ := c_pairs1 hG hwf hf1 hf2 ht1 ht2 hpw (hcJ.fr c_fr.rf hlf) hk hsee c_pt_s e2 (by rw [List.length_append]; omega) hn
      refine ⟨(c_at (zk + 1), J2, K2), ⟨rfl, ?_, e3.tr k3, (e4.tr hlf).tr k4⟩, fun zrec => ?_⟩
      · rw [hcat]
        unfold q_PP
        rw [hsee, if_pos rfl, ← List.append_assoc]
        exact k2
      · unfold B_X2_searchPairs_5 p_cs
        dsimp only
        rw [g3, Option.bind_some, g1, Option.bind_some, hmir, Option.bind_some, g0, k1, Option.bind_some, hat]
  · rintro ⟨zr, J, K⟩ ⟨e1, e2, e3, e4⟩
    dsimp only at e1 e2 e3 e4
    have ecs : zr = none := by rw [e1]; rfl
    subst ecs
    refine ⟨(J, K), ⟨e2, e3, e4⟩, fun zrec => ?_⟩
    unfold B_X2_searchPairs_5 p_cs
    dsimp only
/-- an end of a barrier is an end of the wall -/
theorem c_putEnd {zw zb : Nat} (hb : q_bar I T zw zb) (hr : (q_w T zw 0 = q_w T zw 2) ∨ (q_w T zw 1 = q_w T zw 3)) {ze : Nat} (he : ze < 2) : f_X0_putEnd I L zb (nI ze) 26 = some (c_putO L 26 ((q_w T zw (2 * ze)).toInt64, (q_w T zw (2 * ze + 1)).toInt64, 1)) := by
  obtain ⟨b0, b3, b4, b5, b6, b7, b8⟩ := hb
  have hput : ∀ zx zy : Int32, f_X6_put L 26 zx zy = some (c_putO L 26 (zx.toInt64, zy.toInt64, 1)) := fun zx zy => rfl
  unfold f_X0_putEnd
  simp only [n_let, hput, Option.bind_some]
  rw [b3, bI_if, bI_if, b4, b5, b6]
  unfold q_up
  have hz : ze = 0 ∨ ze = 1 := by omega
  by_cases h02 : q_w T zw 0 = q_w T zw 2
  · rw [decide_eq_true h02]
    simp only [if_true]
    rcases hz with rfl | rfl
    · rw [if_pos (by decide)]
    · rw [if_neg (by decide), h02]
  · rw [decide_eq_false h02]
    have h13 := hr.resolve_left h02
    simp only [Bool.false_eq_true, if_false]
    rcases hz with rfl | rfl
    · rw [if_pos (by decide)]
    · rw [if_neg (by decide), h13]
end Class9
