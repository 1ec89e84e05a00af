section Model9
variable {N : pN} {P : pR} {I : pI} {L : pL} {T : Nat → Int32} {fx fy pw tx ty : Int32}
theorem q_Ps_len {zw : Nat} (h12 : nv (T 0) ≤ 12) : (q_Ps T fx fy pw tx ty zw).length ≤ 12 := by
  unfold q_Ps
  split
  · exact Nat.zero_le _
  · refine Nat.le_trans (q_cat_len (zc := 1) (nv (T 0)) (fun zv _ => ?_)) (by omega)
    unfold q_P1
    split
    · exact Nat.zero_le _
    · split
      · exact q_P_len
      · exact Nat.zero_le _
theorem q_MPs_len {zw : Nat} (h12 : nv (T 0) ≤ 12) : (q_MPs T fx fy pw tx ty zw).length ≤ 13 := by
  unfold q_MPs
  split
  · rw [List.length_append]
    have h1 := q_M_len (T := T) (fx := fx) (fy := fy) (pw := pw) (tx := tx) (ty := ty) (zw := zw)
    have h2 := q_Ps_len (T := T) (fx := fx) (fy := fy) (pw := pw) (tx := tx) (ty := ty) (zw := zw) h12
    omega
  · exact Nat.zero_le _
theorem q_Cs_len {zw : Nat} : (q_Cs T fx fy pw tx ty zw).length ≤ 2 := by
  unfold q_Cs
  split
  · rw [List.length_append]
    have h1 := q_C_len (T := T) (fx := fx) (fy := fy) (pw := pw) (tx := tx) (ty := ty) (zw := zw) (ze := 0)
    have h2 := q_C_len (T := T) (fx := fx) (fy := fy) (pw := pw) (tx := tx) (ty := ty) (zw := zw) (ze := 1)
    omega
  · exact Nat.zero_le _
theorem m_mirrors (hG : GW N P) (hwf : q_wf4 T) {zn : Nat} (hn : 12 < zn) (hs : q_ms I T fx fy pw tx ty) {l : List qW} (hM : q_MR I l) (hlen : l.length ≤ 1) : ∃ J K, p_it (B_X12_tries_76 zn N P 67) zn (nI 0, I, L) = some (J, K) ∧ q_MR J (l ++ (if T 11 ≤ 0 then [] else q_cat (q_MPs T fx fy pw tx ty) (nv (T 0)))) ∧ q_mFr I J ∧ ∀ zq, zq ≠ 67 → K zq = L zq := by
  have h12 : nv (T 0) ≤ 12 := hwf.1.2
  have c0 : Int32.toNatClampNeg (nI 0) = 0 := by decide
  have c11 : Int32.toNatClampNeg (nI 11) = 11 := by decide
  have i0 : p_ib N 68 (nI 0) = true := ib_68 hG (by decide)
  have i11 : p_ib N 68 (nI 11) = true := ib_68 hG (by decide)
  have hp : P 67 0 = some 68 := gp_67_0 hG
  by_cases hd : T 11 ≤ 0
  · have hloop := p_loopI (B := B_X12_tries_76 zn N P 67) (zJ := fun _ (zs : Int32 × pI × pL) => zs = (nI 0, I, L)) (zE := fun (zt : pI × pL) => zt = (I, L)) (zm := 0) (zn := zn) (by omega) (fun zk hk => absurd hk (Nat.not_lt_zero _)) ?_ (nI 0, I, L) rfl
    · obtain ⟨zt, h1, h2⟩ := hloop
      subst h2
      refine ⟨I, L, h1, ?_, q_mFr.rf, fun _ _ => rfl⟩
      rw [if_pos hd, List.append_nil]
      exact hM
    · rintro zs e1
      subst e1
      refine ⟨(I, L), rfl, fun zrec => ?_⟩
      have hd2 : I 68 11 ≤ 0 := by rw [hs.1]; exact hd
      unfold B_X12_tries_76
      dsimp only
      rw [hp, Option.bind_some, n_ck i0, Option.bind_some, n_ck i11, c11, if_pos hd2, ite_self]
  · have hloop := p_loopI (B := B_X12_tries_76 zn N P 67) (zJ := fun zk (zs : Int32 × pI × pL) => zs.1 = nI zk ∧ q_MR zs.2.1 (l ++ q_cat (q_MPs T fx fy pw tx ty) zk) ∧ q_mFr I zs.2.1 ∧ ∀ zq, zq ≠ 67 → zs.2.2 zq = L zq) (zE := fun (zt : pI × pL) => q_MR zt.1 (l ++ q_cat (q_MPs T fx fy pw tx ty) (nv (T 0))) ∧ q_mFr I zt.1 ∧ ∀ zq, zq ≠ 67 → zt.2 zq = L zq) (zm := nv (T 0)) (zn := zn) (by omega) ?_ ?_ (nI 0, I, L) ⟨rfl, by show q_MR I (l ++ []); rw [List.append_nil]; exact hM, q_mFr.rf, fun _ _ => rfl⟩
    · obtain ⟨⟨J, K⟩, h1, h2, h3, h4⟩ := hloop
      refine ⟨J, K, h1, ?_, h3, h4⟩
      rw [if_neg hd]
      exact h2
    · rintro zk hk ⟨z1, J, K⟩ ⟨e1, e2, e3, e4⟩
      dsimp only at e1 e2 e3 e4
      subst e1
      left
      have hsJ := hs.fr e3
      have hc1 : ¬ J 68 0 ≤ nI zk := by rw [hsJ.1, hwf.1.1]; exact nI_ge hk (by omega)
      have hd2 : ¬ J 68 11 ≤ 0 := by rw [hsJ.1]; exact hd
      have hl1 : (q_cat (q_MPs T fx fy pw tx ty) zk).length ≤ 13 * zk := q_cat_len zk (fun zv _ => q_MPs_len h12)
      have hcat : q_cat (q_MPs T fx fy pw tx ty) (zk + 1) = q_cat (q_MPs T fx fy pw tx ty) zk ++ q_MPs T fx fy pw tx ty zk := rfl
      cases hsee : q_seeW T zk with
      | false =>
        refine ⟨(nI (zk + 1), J, K), ⟨rfl, ?_, e3, e4⟩, fun zrec => ?_⟩
        · rw [hcat]
          unfold q_MPs
          rw [hsee, if_neg (by decide), List.append_nil]
          exact e2
        · unfold B_X12_tries_76
          dsimp only
          rw [hp, Option.bind_some, n_ck i0, c0, if_neg hc1, Option.bind_some, n_ck i11, c11, if_neg hd2, m_seesWallT hG hsJ.1 (by omega), q_see_of hk, hsee, Option.bind_some, bI_iff, Option.bind_some, nI_add]
      | true =>
        obtain ⟨J2, K2, g1, g2, g3, g4⟩ := m_byMirror (L := K) hG hwf hn hsJ e2 (by rw [List.length_append]; omega) hk
        have hsJ2 := hsJ.fr g3
        obtain ⟨J3, K3, k1, k2, k3, k4⟩ := m_pairs (L := K2) hG hwf hn hsJ2 g2 (by
          have h1 := q_M_len (T := T) (fx := fx) (fy := fy) (pw := pw) (tx := tx) (ty := ty) (zw := zk)
          rw [List.length_append, List.length_append]
          omega) hk
        refine ⟨(nI (zk + 1), J3, K3), ⟨rfl, ?_, (e3.tr g3).tr k3, fun zq hq => (k4 zq hq).trans ((g4 zq hq).trans (e4 zq hq))⟩, fun zrec => ?_⟩
        · rw [hcat]
          unfold q_MPs
          rw [hsee, if_pos rfl, ← List.append_assoc, ← List.append_assoc]
          exact k2
        · unfold B_X12_tries_76
          dsimp only
          rw [hp, Option.bind_some, n_ck i0, c0, if_neg hc1, Option.bind_some, n_ck i11, c11, if_neg hd2, m_seesWallT hG hsJ.1 (by omega), q_see_of hk, hsee, Option.bind_some, bI_ift, g1, Option.bind_some]
          dsimp only
          rw [k1, Option.bind_some, Option.bind_some, nI_add]
    · rintro ⟨z1, J, K⟩ ⟨e1, e2, e3, e4⟩
      dsimp only at e1 e2 e3 e4
      subst e1
      have hsJ := hs.fr e3
      have hc1 : J 68 0 ≤ nI (nv (T 0)) := by rw [hsJ.1, ← hwf.1.1]; exact Int32.le_refl _
      refine ⟨(J, K), ⟨e2, e3, e4⟩, fun zrec => ?_⟩
      unfold B_X12_tries_76
      dsimp only
      rw [hp, Option.bind_some, n_ck i0, c0, if_pos hc1]
theorem m_corners (hG : GW N P) (hwf : q_wf4 T) (hwf2 : q_wf2 T) (hf1 : rg fx 20) (hf2 : rg fy 20) (ht1 : rg tx 20) (ht2 : rg ty 20) {zn : Nat} (hn : 15 < zn) (hs : q_ms I T fx fy pw tx ty) {l : List qW} (hM : q_MR I l) (hlen : l.length ≤ 170) {zb : Bool} : ∃ J K, p_it (B_X12_tries_179 zn N P (bI zb) 67) zn (nI 0, I, L) = some (J, K) ∧ q_MR J (l ++ (if zb = false ∨ T 12 ≤ 0 then [] else q_cat (q_Cs T fx fy pw tx ty) (nv (T 0)))) ∧ q_mFr I J ∧ ∀ zq, zq ≠ 67 → K zq = L zq := by
  have h12 : nv (T 0) ≤ 12 := hwf.1.2
  have c0 : Int32.toNatClampNeg (nI 0) = 0 := by decide
  have c12 : Int32.toNatClampNeg (nI 12) = 12 := by decide
  have i0 : p_ib N 68 (nI 0) = true := ib_68 hG (by decide)
  have i12 : p_ib N 68 (nI 12) = true := ib_68 hG (by decide)
  have hp : P 67 0 = some 68 := gp_67_0 hG
  by_cases hd : zb = false ∨ T 12 ≤ 0
  · have hloop := p_loopI (B := B_X12_tries_179 zn N P (bI zb) 67) (zJ := fun _ (zs : Int32 × pI × pL) => zs = (nI 0, I, L)) (zE := fun (zt : pI × pL) => zt = (I, L)) (zm := 0) (zn := zn) (by omega) (fun zk hk => absurd hk (Nat.not_lt_zero _)) ?_ (nI 0, I, L) rfl
    · obtain ⟨zt, h1, h2⟩ := hloop
      subst h2
      refine ⟨I, L, h1, ?_, q_mFr.rf, fun _ _ => rfl⟩
      rw [if_pos hd, List.append_nil]
      exact hM
    · rintro zs e1
      subst e1
      refine ⟨(I, L), rfl, fun zrec => ?_⟩
      unfold B_X12_tries_179
      dsimp only
      rw [hp, Option.bind_some, n_ck i0, Option.bind_some, n_ck i12, c12]
      rcases hd with hd | hd
      · subst hd
        rw [bI_iff, ite_self]
      · have hd2 : I 68 12 ≤ 0 := by rw [hs.1]; exact hd
        rw [if_pos hd2, ite_self, ite_self]
  · have hb1 : zb = true := by
      cases zb with
      | true => rfl
      | false => exact absurd (Or.inl rfl) hd
    subst hb1
    have hd1 : ¬ T 12 ≤ 0 := fun h => hd (Or.inr h)
    have hloop := p_loopI (B := B_X12_tries_179 zn N P (bI true) 67) (zJ := fun zk (zs : Int32 × pI × pL) => zs.1 = nI zk ∧ q_MR zs.2.1 (l ++ q_cat (q_Cs T fx fy pw tx ty) zk) ∧ q_mFr I zs.2.1 ∧ ∀ zq, zq ≠ 67 → zs.2.2 zq = L zq) (zE := fun (zt : pI × pL) => q_MR zt.1 (l ++ q_cat (q_Cs T fx fy pw tx ty) (nv (T 0))) ∧ q_mFr I zt.1 ∧ ∀ zq, zq ≠ 67 → zt.2 zq = L zq) (zm := nv (T 0)) (zn := zn) (by omega) ?_ ?_ (nI 0, I, L) ⟨rfl, by show q_MR I (l ++ []); rw [List.append_nil]; exact hM, q_mFr.rf, fun _ _ => rfl⟩
    · obtain ⟨⟨J, K⟩, h1, h2, h3, h4⟩ := hloop
      refine ⟨J, K, h1, ?_, h3, h4⟩
      rw [if_neg hd]
      exact h2
    · rintro zk hk ⟨z1, J, K⟩ ⟨e1, e2, e3, e4⟩
      dsimp only at e1 e2 e3 e4
      subst e1
      left
      have hsJ := hs.fr e3
      have hc1 : ¬ J 68 0 ≤ nI zk := by rw [hsJ.1, hwf.1.1]; exact nI_ge hk (by omega)
      have hd2 : ¬ J 68 12 ≤ 0 := by rw [hsJ.1]; exact hd1
      have hl1 : (q_cat (q_Cs T fx fy pw tx ty) zk).length ≤ 2 * zk := q_cat_len zk (fun zv _ => q_Cs_len)
      have hcat : q_cat (q_Cs T fx fy pw tx ty) (zk + 1) = q_cat (q_Cs T fx fy pw tx ty) zk ++ q_Cs T fx fy pw tx ty zk := rfl
      cases hsee : q_seeW T zk with
      | false =>
        refine ⟨(nI (zk + 1), J, K), ⟨rfl, ?_, e3, e4⟩, fun zrec => ?_⟩
        · rw [hcat]
          unfold q_Cs
          rw [hsee, if_neg (by decide), List.append_nil]
          exact e2
        · unfold B_X12_tries_179
          dsimp only
          rw [hp, Option.bind_some, n_ck i0, c0, if_neg hc1, bI_ift, Option.bind_some, n_ck i12, c12, if_neg hd2, m_seesWallT hG hsJ.1 (by omega), q_see_of hk, hsee, Option.bind_some, bI_iff, Option.bind_some, nI_add]
      | true =>
        obtain ⟨J2, K2, g1, g2, g3, g4⟩ := m_byCorner (L := K) (ze := 0) hG hwf hwf2 hf1 hf2 ht1 ht2 hn hsJ e2 (by rw [List.length_append]; omega) hk (by decide)
        have hsJ2 := hsJ.fr g3
        obtain ⟨J3, K3, k1, k2, k3, k4⟩ := m_byCorner (L := K2) (ze := 1) hG hwf hwf2 hf1 hf2 ht1 ht2 hn hsJ2 g2 (by
          have h1 := q_C_len (T := T) (fx := fx) (fy := fy) (pw := pw) (tx := tx) (ty := ty) (zw := zk) (ze := 0)
          rw [List.length_append, List.length_append]
          omega) hk (by decide)
        refine ⟨(nI (zk + 1), J3, K3), ⟨rfl, ?_, (e3.tr g3).tr k3, fun zq hq => (k4 zq hq).trans ((g4 zq hq).trans (e4 zq hq))⟩, fun zrec => ?_⟩
        · rw [hcat]
          unfold q_Cs
          rw [hsee, if_pos rfl, ← List.append_assoc, ← List.append_assoc]
          exact k2
        · unfold B_X12_tries_179
          dsimp only
          rw [hp, Option.bind_some, n_ck i0, c0, if_neg hc1, bI_ift, Option.bind_some, n_ck i12, c12, if_neg hd2, m_seesWallT hG hsJ.1 (by omega), q_see_of hk, hsee, Option.bind_some, bI_ift, g1, Option.bind_some]
          dsimp only
          rw [k1, Option.bind_some, Option.bind_some, nI_add]
    · rintro ⟨z1, J, K⟩ ⟨e1, e2, e3, e4⟩
      dsimp only at e1 e2 e3 e4
      subst e1
      have hsJ := hs.fr e3
      have hc1 : J 68 0 ≤ nI (nv (T 0)) := by rw [hsJ.1, ← hwf.1.1]; exact Int32.le_refl _
      refine ⟨(J, K), ⟨e2, e3, e4⟩, fun zrec => ?_⟩
      unfold B_X12_tries_179
      dsimp only
      rw [hp, Option.bind_some, n_ck i0, c0, if_pos hc1]
/-- what a search of the reference leaves as it was -/
def q_tFr (I J : pI) : Prop := (∀ zx, zx ≠ 67 → zx < 70 ∨ 75 < zx → J zx = I zx) ∧ ∀ zj, zj ≠ 6 → zj ≠ 13 → zj ≠ 16 → zj ≠ 17 → J 67 zj = I 67 zj
theorem m_tries (hG : GW N P) (hwf : q_wf4 T) (hwf2 : q_wf2 T) (hf1 : rg fx 20) (hf2 : rg fy 20) (ht1 : rg tx 20) (ht2 : rg ty 20) {zn : Nat} (hn : 15 < zn) (hT : I 68 = T) (h14 : I 67 14 = fx) (h15 : I 67 15 = fy) (h18 : I 67 18 = pw) : ∃ J K, f_X12_tries zn N I L P 67 tx ty = some (J, K) ∧ q_MR J (q_all T fx fy pw tx ty) ∧ q_tFr I J ∧ ∀ zq, zq ≠ 67 → K zq = L zq := by
  have hfr0 : ∀ zj, zj ≠ 13 → zj ≠ 16 → zj ≠ 17 → p_u (p_u (p_u I 67 16 tx) 67 17 ty) 67 13 (nI 0) 67 zj = I 67 zj := fun zj a1 a2 a3 => by rw [p_u_nk a1, p_u_nk a3, p_u_nk a2]
  have hms0 : q_ms (p_u (p_u (p_u I 67 16 tx) 67 17 ty) 67 13 (nI 0)) T fx fy pw tx ty := by
    refine ⟨?_, ?_, ?_, ?_, ?_, ?_⟩
    · rw [p_u_ne (by decide), p_u_ne (by decide), p_u_ne (by decide)]; exact hT
    · rw [hfr0 14 (by decide) (by decide) (by decide)]; exact h14
    · rw [hfr0 15 (by decide) (by decide) (by decide)]; exact h15
    · rw [p_u_nk (by decide), p_u_nk (by decide), p_u_self]
    · rw [p_u_nk (by decide), p_u_self]
    · rw [hfr0 18 (by decide) (by decide) (by decide)]; exact h18
  have hM0 : q_MR (p_u (p_u (p_u I 67 16 tx) 67 17 ty) 67 13 (nI 0)) [] := ⟨p_u_self, fun zi zq hq => by cases hq⟩
  have hF0 : ∀ zx, zx ≠ 67 → p_u (p_u (p_u I 67 16 tx) 67 17 ty) 67 13 (nI 0) zx = I zx := fun zx hx => by rw [p_u_ne hx, p_u_ne hx, p_u_ne hx]
  unfold f_X12_tries
  rw [n_let, n_let, n_let]
  generalize p_u (p_u (p_u I 67 16 tx) 67 17 ty) 67 13 (nI 0) = I0 at hfr0 hms0 hM0 hF0
  rw [hms0.2.1, hms0.2.2.1, m_squares, Option.bind_some, m_begins, Option.bind_some, hms0.2.2.2.2.2]
  dsimp only
  have hs1 : q_ms (p_u I0 67 6 (bI false)) T fx fy pw tx ty := hms0.fr q_mFr.b
  rw [hs1.2.1, hs1.2.2.1]
  obtain ⟨I1, L1, e1, e2, e3, e4, e5, e6⟩ := m_legS (L := p_u L 67 5 (q_beg pw (q_sq (fx - tx).toInt64 (fy - ty).toInt64))) (ax := fx.toInt64) (ay := fy.toInt64) (ap := 1) (bx := tx.toInt64) (cy := ty.toInt64) (cp := 1) (zs := (q_beg pw (q_sq (fx - tx).toInt64 (fy - ty).toInt64), false)) hG hwf (zn := zn) (by omega) hs1 p_u_self p_u_self
  rw [e1, Option.bind_some]
  dsimp only
  have hs2 := hs1.fr e4
  obtain ⟨I2, k1, k2, k3⟩ := m_adds (k1 := nI 0) (f1 := -1) (g1 := -1) (a1 := q_sq (fx - tx).toInt64 (fy - ty).toInt64) (c1 := 0) hG (e5 [] hM0.b) (by decide) e2 e3
  rw [k1, Option.bind_some]
  have hs3 := hs2.fr k3
  have k2' : q_MR I2 (q_S T fx fy pw tx ty) := k2
  obtain ⟨I3, L3, g1, g2, g3, g4⟩ := m_mirrors (L := L1) hG hwf (zn := zn) (by omega) hs3 k2' q_add_len
  rw [g1, Option.bind_some]
  dsimp only
  have hs4 := hs3.fr g3
  have e2' : I1 67 6 = bI (q_sg T fx fy pw tx ty).2 := e2
  rw [e2']
  have hlS : (q_S T fx fy pw tx ty).length ≤ 1 := q_add_len
  obtain ⟨I4, L4, i1, i2, i3, i4⟩ := m_corners (L := L3) (zb := (q_sg T fx fy pw tx ty).2) hG hwf hwf2 hf1 hf2 ht1 ht2 hn hs4 g2 (by
    rw [List.length_append]
    have hl2 : (if T 11 ≤ 0 then ([] : List qW) else q_cat (q_MPs T fx fy pw tx ty) (nv (T 0))).length ≤ 156 := by
      split
      · exact Nat.zero_le _
      · have := q_cat_len (f := q_MPs T fx fy pw tx ty) (zc := 13) (nv (T 0)) (fun zv _ => q_MPs_len hwf.1.2)
        have := hwf.1.2
        omega
    omega)
  rw [i1, Option.bind_some]
  have hfr := (((q_mFr.b.tr e4).tr k3).tr g3).tr i3
  refine ⟨I4, L4, rfl, i2, ⟨fun zx hx hy => (hfr.1 zx hx hy).trans (hF0 zx hx), fun zj a1 a2 a3 a4 => (hfr.2 zj a1 a2).trans (hfr0 zj a2 a3 a4)⟩, fun zq hq => ?_⟩
  rw [i4 zq hq, g4 zq hq, e6 zq hq, p_u_ne hq]
end Model9
