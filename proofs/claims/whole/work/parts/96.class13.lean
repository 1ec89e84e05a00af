/-! the class: a search -/
def c_sF (I J : pI) : Prop := (∀ zx, zx ≠ 21 → zx ≠ 29 → zx ≠ 30 → zx ≠ 31 → J zx = I zx) ∧ ∀ zj, zj ≠ 12 → zj ≠ 13 → J 21 zj = I 21 zj
def c_lF (L K : pL) : Prop := ∀ zx, zx < 22 ∨ 28 < zx → K zx = L zx
section Class13
variable {N : pN} {P : pR} {I : pI} {L : pL} {T : Nat → Int32} {fx fy pw tx ty : Int32}
theorem q_S_len : (q_S T fx fy pw tx ty).length = if (q_sg T fx fy pw tx ty).2 = true then 0 else 1 := by
  unfold q_S q_add
  split <;> rfl
theorem c_search (hG : GW N P) (hwf : q_wfs T) (hu : q_wfu T) (hf1 : rg fx 20) (hf2 : rg fy 20) (ht1 : rg tx 20) (ht2 : rg ty 20) (hpw : rg pw 9999) (hbd : rg (T 12) 100) (hB : q_bars I T) (h10 : I 21 10 = T 11) (h11 : I 21 11 = T 12) {zr : Nat} (hTB : TB N P I 29 30 169 6 zr) {a1 : Nat} {x2 x3 : Int32} (hget : ∀ J : pI, (∀ zx, zx ≠ 21 → zx ≠ 29 → J zx = I zx) → f_X8_get N J P a1 x2 x3 = some pw ∧ f_X8_get N J P a1 x2 (nI 0) = some fx ∧ f_X8_get N J P a1 x2 (nI 1) = some fy) {zn : Nat} (hn : 16 < zn) : ∃ J K, f_X2_search zn N I L P 21 a1 x2 x3 tx ty = some (q_sum (q_allC T fx fy pw tx ty), J, K) ∧ q_FR N P J (q_allC T fx fy pw tx ty) ∧ c_sF I J ∧ c_lF L K := by
  have g1 : P 21 1 = some 22 := gp_21_1 hG
  have g2 : P 21 2 = some 23 := gp_21_2 hG
  have g8 : P 21 8 = some 29 := gp_21_8 hG
  have hcut : f_X8_cut I 29 (nI 0) = some (p_u I 29 3 (nI 0)) := tb_cut hTB (Nat.zero_le _)
  have hTB0 : TB N P (p_u I 29 3 (nI 0)) 29 30 169 6 0 := hTB.rows (Nat.zero_le _)
  have hA6 : ∀ zx, zx ≠ 21 → zx ≠ 29 → p_u (p_u I 29 3 (nI 0)) 21 13 (nI 0) zx = I zx := fun zx a b => by rw [p_u_ne a, p_u_ne b]
  have hA10 : ∀ zx, zx ≠ 21 → zx ≠ 29 → p_u (p_u (p_u I 29 3 (nI 0)) 21 13 (nI 0)) 21 12 pw zx = I zx := fun zx a b => by rw [p_u_ne a]; exact hA6 zx a b
  have hF0 : q_FR N P (p_u (p_u (p_u I 29 3 (nI 0)) 21 13 (nI 0)) 21 12 pw) [] := by
    refine ⟨hTB0.of (fun zi => by rw [p_u_x (by decide), p_u_x (by decide)]), (fun zi zq hq => by cases hq), ?_⟩
    rw [p_u_nk (by decide), p_u_self]
    rfl
  have hfr0 : ∀ zj, zj ≠ 12 → zj ≠ 13 → p_u (p_u (p_u I 29 3 (nI 0)) 21 13 (nI 0)) 21 12 pw 21 zj = I 21 zj := fun zj a b => by rw [p_u_nk a, p_u_nk b, p_u_ne (by decide)]
  have hB0 : q_bars (p_u (p_u (p_u I 29 3 (nI 0)) 21 13 (nI 0)) 21 12 pw) T := by
    intro zw hw
    have e : p_u (p_u (p_u I 29 3 (nI 0)) 21 13 (nI 0)) 21 12 pw (43 - zw) = I (43 - zw) := hA10 _ (by omega) (by omega)
    have h3 := hB zw hw
    unfold q_bar at h3 ⊢
    rw [e]
    exact h3
  have hput : ∀ (zL : pL) (za : Nat) (z1 z2 : Int32), f_X6_put zL za z1 z2 = some (c_putO zL za (z1.toInt64, z2.toInt64, 1)) := fun zL za z1 z2 => rfl
  have h12' : p_u (p_u (p_u I 29 3 (nI 0)) 21 13 (nI 0)) 21 12 pw 21 12 = pw := p_u_self
  have hget6 := (hget _ hA6).1
  have hget10 := (hget _ hA10).2
  unfold f_X2_search
  rw [g8, Option.bind_some, hcut, Option.bind_some, n_let, hget6, Option.bind_some, n_let, g1, Option.bind_some, hget10.1, Option.bind_some, hget10.2, Option.bind_some, hput, Option.bind_some, g2, Option.bind_some, hput, Option.bind_some]
  generalize p_u (p_u (p_u I 29 3 (nI 0)) 21 13 (nI 0)) 21 12 pw = I0 at hA10 hF0 hfr0 hB0 h12' hget10
  generalize hL0 : c_putO (c_putO L 22 (fx.toInt64, fy.toInt64, 1)) 23 (tx.toInt64, ty.toInt64, 1) = L0
  have hp23 : c_pt L0 23 = (tx.toInt64, ty.toInt64, 1) := by rw [← hL0]; exact c_pt_s
  have hp22 : c_pt L0 22 = (fx.toInt64, fy.toInt64, 1) := by rw [← hL0, c_pt_n (by decide)]; exact c_pt_s
  have hl0 : ∀ zx, zx < 22 ∨ 28 < zx → L0 zx = L zx := fun zx hx => by rw [← hL0, c_putO_n (by omega), c_putO_n (by omega)]
  have hc0 : c_cs I0 L0 T fx fy pw tx ty := ⟨hB0, h12', hp22, hp23⟩
  obtain ⟨I1, L1, s1, s2, s3, s4⟩ := c_sight (zn := zn) hG hwf hf1 hf2 ht1 ht2 hpw hc0 hF0 (by decide) (by omega)
  rw [List.nil_append] at s2
  rw [s1, Option.bind_some]
  dsimp only
  have hc1 := hc0.fr s3 s4
  have hlS := q_S_len (T := T) (fx := fx) (fy := fy) (pw := pw) (tx := tx) (ty := ty)
  have hlS1 : (q_S T fx fy pw tx ty).length ≤ 1 := q_add_len
  rw [Option.bind_some, tb_size s2.1, Option.bind_some, n_let]
  have d1 : I1 21 10 = T 11 := ((s3.2 10 (by decide)).trans (hfr0 10 (by decide) (by decide))).trans h10
  -- one mirror
  have hm : ∃ J K, (if I1 21 10 ≤ 0 then some (I1, L1) else (f_X2_searchMirrors zn N I1 L1 P 21).bind fun q37 => some (q37.1, q37.2)) = some (J, K) ∧ q_FR N P J (q_S T fx fy pw tx ty ++ (if T 11 ≤ 0 then [] else q_cat (q_M1 T fx fy pw tx ty) 12)) ∧ c_fr I1 J ∧ c_lf L1 K := by
    by_cases hd : T 11 ≤ 0
    · have hd2 : I1 21 10 ≤ 0 := by rw [d1]; exact hd
      refine ⟨I1, L1, by rw [if_pos hd2], ?_, c_fr.rf, c_lf.rf⟩
      rw [if_pos hd, List.append_nil]
      exact s2
    · have hd2 : ¬ I1 21 10 ≤ 0 := by rw [d1]; exact hd
      obtain ⟨J, K, k1, k2, k3, k4⟩ := c_mirrors (zn := zn) hG hwf hf1 hf2 ht1 ht2 hpw hc1 s2 hlS1 (by omega)
      refine ⟨J, K, by rw [if_neg hd2, k1, Option.bind_some], ?_, k3, k4⟩
      rw [if_neg hd]
      exact k2
  obtain ⟨I2, L2, m1, m2, m3, m4⟩ := hm
  rw [m1, Option.bind_some]
  dsimp only
  have hc2 := hc1.fr m3 m4
  have d2 : I2 21 10 = T 11 := (m3.2 10 (by decide)).trans d1
  have hl2 : (q_S T fx fy pw tx ty ++ (if T 11 ≤ 0 then [] else q_cat (q_M1 T fx fy pw tx ty) 12)).length ≤ 13 := by
    rw [List.length_append]
    split
    · show _ + 0 ≤ _; omega
    · have := q_cat_len (f := q_M1 T fx fy pw tx ty) (zc := 1) 12 (fun zv _ => by
        unfold q_M1
        split
        · exact q_M_len
        · exact Nat.zero_le _)
      omega
  -- two mirrors
  have hp : ∃ J K, (if I2 21 10 ≤ nI 1 then some (I2, L2) else (f_X2_searchPairs zn N I2 L2 P 21).bind fun q41 => some (q41.1, q41.2)) = some (J, K) ∧ q_FR N P J ((q_S T fx fy pw tx ty ++ (if T 11 ≤ 0 then [] else q_cat (q_M1 T fx fy pw tx ty) 12)) ++ (if T 11 ≤ nI 1 then [] else q_cat (q_PP T fx fy pw tx ty) 12)) ∧ c_fr I2 J ∧ c_lf L2 K := by
    by_cases hd : T 11 ≤ nI 1
    · have hd2 : I2 21 10 ≤ nI 1 := by rw [d2]; exact hd
      refine ⟨I2, L2, by rw [if_pos hd2], ?_, c_fr.rf, c_lf.rf⟩
      rw [if_pos hd, List.append_nil]
      exact m2
    · have hd2 : ¬ I2 21 10 ≤ nI 1 := by rw [d2]; exact hd
      obtain ⟨J, K, k1, k2, k3, k4⟩ := c_pairs (zn := zn) hG hwf hf1 hf2 ht1 ht2 hpw hc2 m2 hl2 (by omega)
      refine ⟨J, K, by rw [if_neg hd2, k1, Option.bind_some], ?_, k3, k4⟩
      rw [if_neg hd]
      exact k2
  obtain ⟨I3, L3, n1, n2, n3, n4⟩ := hp
  rw [n1, Option.bind_some]
  dsimp only
  have hc3 := hc2.fr n3 n4
  have d3 : I3 21 11 = T 12 := (((n3.2 11 (by decide)).trans (m3.2 11 (by decide))).trans ((s3.2 11 (by decide)).trans (hfr0 11 (by decide) (by decide)))).trans h11
  have hl3 : ((q_S T fx fy pw tx ty ++ (if T 11 ≤ 0 then [] else q_cat (q_M1 T fx fy pw tx ty) 12)) ++ (if T 11 ≤ nI 1 then [] else q_cat (q_PP T fx fy pw tx ty) 12)).length ≤ 145 := by
    have hq2 : (if T 11 ≤ nI 1 then ([] : List qW) else q_cat (q_PP T fx fy pw tx ty) 12).length ≤ 132 := by
      split
      · exact Nat.zero_le _
      · exact q_cat_len (f := q_PP T fx fy pw tx ty) (zc := 11) 12 (fun zv hv => q_PP_len hv)
    rw [List.length_append]
    omega
  have ht33 : (if nI (q_S T fx fy pw tx ty).length = 0 then nI 1 else nI 0) = bI (q_sg T fx fy pw tx ty).2 := by
    rw [hlS]
    cases (q_sg T fx fy pw tx ty).2 <;> rfl
  rw [ht33]
  -- round corners
  have hq : ∃ J K, (if I3 21 11 ≤ 0 then some (I3, L3) else if bI (q_sg T fx fy pw tx ty).2 = 0 then some (I3, L3) else (f_X2_searchCorners zn N I3 L3 P 21).bind fun q45 => some (q45.1, q45.2)) = some (J, K) ∧ q_FR N P J (q_allC T fx fy pw tx ty) ∧ c_fr I3 J ∧ c_lf L3 K := by
    unfold q_allC
    by_cases hd : T 12 ≤ 0
    · have hd2 : I3 21 11 ≤ 0 := by rw [d3]; exact hd
      refine ⟨I3, L3, by rw [if_pos hd2], ?_, c_fr.rf, c_lf.rf⟩
      rw [if_pos (c := _ ∨ _) (Or.inr hd), List.append_nil]
      exact n2
    · have hd2 : ¬ I3 21 11 ≤ 0 := by rw [d3]; exact hd
      rw [if_neg hd2]
      cases hsg : (q_sg T fx fy pw tx ty).2 with
      | false =>
        rw [bI_iff]
        refine ⟨I3, L3, rfl, ?_, c_fr.rf, c_lf.rf⟩
        rw [if_pos (c := _ ∨ _) (Or.inl rfl), List.append_nil]
        exact n2
      | true =>
        obtain ⟨J, K, k1, k2, k3, k4⟩ := c_corners (zn := zn) hG hwf hu hf1 hf2 ht1 ht2 hpw hbd d3 hc3 n2 hl3 hn
        rw [bI_ift, k1, Option.bind_some]
        refine ⟨J, K, rfl, ?_, k3, k4⟩
        rw [if_neg (c := _ ∨ _) (fun h => h.elim (fun h2 => by cases h2) hd)]
        exact k2
  obtain ⟨I4, L4, o1, o2, o3, o4⟩ := hq
  rw [o1, Option.bind_some]
  dsimp only
  have hfr := ((s3.tr m3).tr n3).tr o3
  refine ⟨I4, L4, by rw [o2.2.2], o2, ⟨fun zx a b c d => (hfr.1 zx a b c d).trans (hA10 zx a b), fun zj a b => (hfr.2 zj b).trans (hfr0 zj a b)⟩, fun zx hx => ?_⟩
  rw [o4 zx (by omega), n4 zx (by omega), m4 zx (by omega), s4 zx (by omega)]
  exact hl0 zx hx
end Class13
