/-! what stays when cells that no signal hangs on are written -/
section CongC
variable {T S : Nat → Int32} {fx fy pw tx ty : Int32}
theorem cg_allC (h : q_ag T S) (hwf : q_wf4 T) : q_allC T fx fy pw tx ty = q_allC S fx fy pw tx ty := by
  have h12 := hwf.1.2
  have hsg : q_sg T fx fy pw tx ty = q_sg S fx fy pw tx ty := by unfold q_sg; rw [cg_leg h hwf]
  have hS : q_S T fx fy pw tx ty = q_S S fx fy pw tx ty := by unfold q_S; rw [hsg]
  have hM : q_cat (q_M1 T fx fy pw tx ty) 12 = q_cat (q_M1 S fx fy pw tx ty) 12 := q_cat_ext2 (fun zw hw => by
    unfold q_M1
    rw [← cg_see h hw]
    by_cases hs : q_seeW T zw = true
    · rw [if_pos hs, if_pos hs, cg_M h hwf (q_see_lt hs)]
    · rw [if_neg hs, if_neg hs])
  have hP : q_cat (q_PP T fx fy pw tx ty) 12 = q_cat (q_PP S fx fy pw tx ty) 12 := q_cat_ext2 (fun zw hw => by
    unfold q_PP
    rw [← cg_see h hw]
    by_cases hs : q_seeW T zw = true
    · rw [if_pos hs, if_pos hs]
      refine q_cat_ext2 (fun zv hv => ?_)
      unfold q_P1
      rw [← cg_see h hv]
      by_cases hs2 : q_seeW T zv = true
      · rw [if_pos hs2, if_pos hs2, cg_P h hwf (q_see_lt hs) (q_see_lt hs2)]
      · rw [if_neg hs2, if_neg hs2]
    · rw [if_neg hs, if_neg hs])
  have hC : q_cat (q_Cs T fx fy pw tx ty) 12 = q_cat (q_Cs S fx fy pw tx ty) 12 := q_cat_ext2 (fun zw hw => by
    unfold q_Cs
    rw [← cg_see h hw, cg_C h hwf hw (by decide), cg_C h hwf hw (by decide)])
  unfold q_allC
  rw [hS, hsg, hM, hP, hC, ← h.2.2.2.1, ← h.2.2.2.2.1]
end CongC
def q_tw (zj : Nat) : Prop := zj < 6 ∨ (11 ≤ zj ∧ zj < 13) ∨ (18 ≤ zj ∧ zj < 28) ∨ (30 ≤ zj ∧ zj < 114) ∨ (120 ≤ zj ∧ zj < 168 ∧ (zj - 120) % 8 < 6) ∨ (170 ≤ zj ∧ zj < 218) ∨ 1160 ≤ zj
section Stay
variable {N : pN} {P : pR} {I J : pI} {zk : Nat}
theorem IV.stay (h : IV zk N P I) (hS : SR N P J 1 0) (e : ∀ zq, 19 < zq → (zq < 47 ∨ zq = 65 ∨ zq = 69 ∨ zq = 77 ∨ 85 < zq) → J zq = I zq) (e68 : ∀ zj, q_tw zj → J 68 zj = I 68 zj) : IV zk N P J := by
  obtain ⟨h1, h2, h3, h4, h5, h6, h7, h8⟩ := h
  have hag : q_ag (I 68) (J 68) := by
    refine ⟨(e68 _ (Or.inl (by decide))).symm, (e68 _ (Or.inl (by decide))).symm, (e68 _ (Or.inl (by decide))).symm, (e68 _ (Or.inr (Or.inl (by decide)))).symm, (e68 _ (Or.inr (Or.inl (by decide)))).symm, fun zj hj => ⟨(e68 _ ?_).symm, (e68 _ ?_).symm⟩, fun zj hj => (e68 _ ?_).symm⟩
    · unfold q_tw; omega
    · unfold q_tw; omega
    · unfold q_tw; omega
  have c1 : J 68 1 = I 68 1 := e68 _ (Or.inl (by decide))
  have c2 : J 68 2 = I 68 2 := e68 _ (Or.inl (by decide))
  have c3 : J 68 3 = I 68 3 := e68 _ (Or.inl (by decide))
  have n1 : nv (I 68 1) ≤ 6 := h2.rs.1.2
  have n2 : nv (I 68 2) ≤ 8 := h2.ri.1.2
  have n3 : nv (I 68 3) ≤ 8 := h2.rn.1.2
  have g1 : ∀ zs zx zy, zs < nv (I 68 1) → q_sgS (J 68) zs zx zy = q_sgS (I 68) zs zx zy := fun zs zx zy hs => by
    unfold q_sgS q_sig
    rw [e68 (120 + 8 * zs + 0) (by unfold q_tw; omega), e68 (120 + 8 * zs + 1) (by unfold q_tw; omega), e68 (120 + 8 * zs + 3) (by unfold q_tw; omega), ← cg_all hag h2.wf4]
  have g2 : ∀ zi zj, zi < nv (I 68 2) → zj < nv (I 68 3) → q_sgI (J 68) zi zj = q_sgI (I 68) zi zj := fun zi zj hi hj => by
    unfold q_sgI q_sig
    rw [e68 (170 + 4 * zi + 0) (by unfold q_tw; omega), e68 (170 + 4 * zi + 1) (by unfold q_tw; omega), e68 (170 + 4 * zi + 2) (by unfold q_tw; omega), e68 (202 + 2 * zj + 0) (by unfold q_tw; omega), e68 (202 + 2 * zj + 1) (by unfold q_tw; omega), ← cg_all hag h2.wf4]
  have g3 : ∀ zs zx zy, zs < nv (I 68 1) → q_alS (J 68) zs zx zy = q_alS (I 68) zs zx zy := fun zs zx zy hs => by
    unfold q_alS
    rw [e68 (120 + 8 * zs + 0) (by unfold q_tw; omega), e68 (120 + 8 * zs + 1) (by unfold q_tw; omega), e68 (120 + 8 * zs + 3) (by unfold q_tw; omega), ← cg_allC hag h2.wf4]
  have e44 := e 44 (by decide) (by decide)
  refine ⟨h1, hS, h3.of (fun zq a => e zq (by omega) (by omega)) (fun zj a => e68 zj (by unfold q_tw; omega)) (e 69 (by decide) (by decide)), ?_, ?_, ?_, ?_, h8.of (e 65 (by decide) (by decide))⟩
  · obtain ⟨b1, b2, b3, ⟨zr, b4⟩, b5⟩ := h4
    refine ⟨?_, ?_, ?_, ⟨zr, b4.of (fun zi => by rw [e 29 (by decide) (by decide)])⟩, fun zw hw => by rw [e (43 - zw) (by omega) (by omega)]; exact b5 zw hw⟩
    · intro zw hw
      have h9 := b1 zw hw
      have h8 : q_seeW (I 68) zw = true → q_thr (I 68) zw = q_thr (J 68) zw ∧ q_bck (I 68) zw = q_bck (J 68) zw := fun hs => cg_thr hag hw (h2.wf4.2 zw (q_see_lt hs))
      rw [e (43 - zw) (by omega) (by omega), ← cg_see hag hw]
      refine ⟨h9.1, fun hs => ?_⟩
      obtain ⟨a1, a2, a3⟩ := h9.2 hs
      rw [← (h8 hs).1, ← (h8 hs).2]
      refine ⟨?_, a2, a3⟩
      unfold q_bar at a1 ⊢
      rw [e (43 - zw) (by omega) (by omega), ← cg_up hag hw, ← (h8 hs).1, ← (h8 hs).2, ← cg_w hag hw (show 0 < 7 by decide), ← cg_w hag hw (show 1 < 7 by decide), ← cg_w hag hw (show 2 < 7 by decide), ← cg_w hag hw (show 3 < 7 by decide)]
      exact a1
    · rw [c1, c2, e 21 (by decide) (by decide), ← hag.2.2.2.1]; exact b2
    · rw [e 21 (by decide) (by decide), ← hag.2.2.2.2.1]; exact b3
  · unfold R_memo at h5 ⊢
    rw [e44, e 45 (by decide) (by decide), e 46 (by decide) (by decide), c1, c2, c3]
    obtain ⟨s1, s2, s3⟩ := h5
    refine ⟨s1, fun zs zx zy a b c d => ?_, fun zi zj a b c => ?_⟩
    · rw [g1 zs zx zy a]; exact s2 zs zx zy a b c d
    · rw [g2 zi zj a b]; exact s3 zi zj a b c
  · intro zs zx zy a b c
    rw [e 77 (by decide) (by decide), c1]
    rcases h6 zs zx zy a b c with g | ⟨g, g4⟩
    · exact Or.inl g
    · exact Or.inr ⟨g, by rw [g1 zs zx zy g]; exact g4⟩
  · unfold R_list q_LS at h7 ⊢
    rw [e44, e 30 (by decide) (by decide), e 31 (by decide) (by decide), c1]
    rcases h7 with g | ⟨zs, zx, zy, a1, a2, a3, a4, a5, a6⟩
    · exact Or.inl g
    · refine Or.inr ⟨zs, zx, zy, a1, a2, a3, a4, ?_⟩
      rw [g3 zs zx zy a1]
      exact ⟨a5.of (fun zi => by rw [e 29 (by decide) (by decide)]), a6⟩
theorem SR.w_tape (h : SR N P I 1 0) (hX : R_tape N P J 1 0) (e1 : ∀ zq, 1 ≤ zq → zq < 20 → zq ≠ 2 → zq ≠ 3 → J zq = I zq) (e2 : ∀ zj, zj < 1160 → zj ≠ 8 → (zj < 660 ∨ 1160 ≤ zj) → J 68 zj = I 68 zj) : SR N P J 1 0 := by
  obtain ⟨s1, s2, s3, s4, s5, s6, s7, s8, s9, s10⟩ := h
  exact ⟨hX, s2.of (e1 _ (by decide) (by decide) (by decide) (by decide)) (e1 _ (by decide) (by decide) (by decide) (by decide)) (e2 _ (by decide) (by decide) (by decide)) (fun zk a b => e2 _ (by omega) (by omega) (by omega)), s3.of (e1 _ (by decide) (by decide) (by decide) (by decide)) (e1 _ (by decide) (by decide) (by decide) (by decide)) (e2 _ (by decide) (by decide) (by decide)) (fun zk a b => e2 _ (by omega) (by omega) (by omega)), s4.of (e1 _ (by decide) (by decide) (by decide) (by decide)) (e1 _ (by decide) (by decide) (by decide) (by decide)) (e2 _ (by decide) (by decide) (by decide)) (fun zk a b => e2 _ (by omega) (by omega) (by omega)), s5.of (e1 _ (by decide) (by decide) (by decide) (by decide)) (e1 _ (by decide) (by decide) (by decide) (by decide)) (e2 _ (by decide) (by decide) (by decide)) (fun zk a b => e2 _ (by omega) (by omega) (by omega)), s6.of (e1 _ (by decide) (by decide) (by decide) (by decide)) (e1 _ (by decide) (by decide) (by decide) (by decide)) (fun zk a b => e2 _ (by omega) (by omega) (by omega)), s7.of (e1 _ (by decide) (by decide) (by decide) (by decide)) (e1 _ (by decide) (by decide) (by decide) (by decide)) (fun zk a b => e2 _ (by omega) (by omega) (by omega)), s8.of (e1 _ (by decide) (by decide) (by decide) (by decide)) (e1 _ (by decide) (by decide) (by decide) (by decide)) (e2 _ (by decide) (by decide) (by decide)) (fun zk a b => e2 _ (by omega) (by omega) (by omega)), s9.of (e1 _ (by decide) (by decide) (by decide) (by decide)) (e1 _ (by decide) (by decide) (by decide) (by decide)) (e2 _ (by decide) (by decide) (by decide)) (fun zk a b => e2 _ (by omega) (by omega) (by omega)), s10.of (e1 _ (by decide) (by decide) (by decide) (by decide)) (e2 _ (by decide) (by decide) (by decide)) (e2 _ (by decide) (by decide) (by decide)) (e2 _ (by decide) (by decide) (by decide)) (e2 _ (by decide) (by decide) (by decide))⟩
theorem SR.w_walls (h : SR N P I 1 0) (hX : R_walls N P J 1 0) (e1 : ∀ zq, 1 ≤ zq → zq < 20 → zq ≠ 4 → zq ≠ 5 → J zq = I zq) (e2 : ∀ zj, zj < 1160 → zj ≠ 0 → (zj < 30 ∨ 114 ≤ zj) → J 68 zj = I 68 zj) : SR N P J 1 0 := by
  obtain ⟨s1, s2, s3, s4, s5, s6, s7, s8, s9, s10⟩ := h
  exact ⟨s1.of (e1 _ (by decide) (by decide) (by decide) (by decide)) (e1 _ (by decide) (by decide) (by decide) (by decide)) (e2 _ (by decide) (by decide) (by decide)) (fun zk a b => e2 _ (by omega) (by omega) (by omega)), hX, s3.of (e1 _ (by decide) (by decide) (by decide) (by decide)) (e1 _ (by decide) (by decide) (by decide) (by decide)) (e2 _ (by decide) (by decide) (by decide)) (fun zk a b => e2 _ (by omega) (by omega) (by omega)), s4.of (e1 _ (by decide) (by decide) (by decide) (by decide)) (e1 _ (by decide) (by decide) (by decide) (by decide)) (e2 _ (by decide) (by decide) (by decide)) (fun zk a b => e2 _ (by omega) (by omega) (by omega)), s5.of (e1 _ (by decide) (by decide) (by decide) (by decide)) (e1 _ (by decide) (by decide) (by decide) (by decide)) (e2 _ (by decide) (by decide) (by decide)) (fun zk a b => e2 _ (by omega) (by omega) (by omega)), s6.of (e1 _ (by decide) (by decide) (by decide) (by decide)) (e1 _ (by decide) (by decide) (by decide) (by decide)) (fun zk a b => e2 _ (by omega) (by omega) (by omega)), s7.of (e1 _ (by decide) (by decide) (by decide) (by decide)) (e1 _ (by decide) (by decide) (by decide) (by decide)) (fun zk a b => e2 _ (by omega) (by omega) (by omega)), s8.of (e1 _ (by decide) (by decide) (by decide) (by decide)) (e1 _ (by decide) (by decide) (by decide) (by decide)) (e2 _ (by decide) (by decide) (by decide)) (fun zk a b => e2 _ (by omega) (by omega) (by omega)), s9.of (e1 _ (by decide) (by decide) (by decide) (by decide)) (e1 _ (by decide) (by decide) (by decide) (by decide)) (e2 _ (by decide) (by decide) (by decide)) (fun zk a b => e2 _ (by omega) (by omega) (by omega)), s10.of (e1 _ (by decide) (by decide) (by decide) (by decide)) (e2 _ (by decide) (by decide) (by decide)) (e2 _ (by decide) (by decide) (by decide)) (e2 _ (by decide) (by decide) (by decide)) (e2 _ (by decide) (by decide) (by decide))⟩
theorem SR.w_senders (h : SR N P I 1 0) (hX : R_senders N P J 1 0) (e1 : ∀ zq, 1 ≤ zq → zq < 20 → zq ≠ 6 → zq ≠ 7 → J zq = I zq) (e2 : ∀ zj, zj < 1160 → zj ≠ 1 → (zj < 120 ∨ 168 ≤ zj) → J 68 zj = I 68 zj) : SR N P J 1 0 := by
  obtain ⟨s1, s2, s3, s4, s5, s6, s7, s8, s9, s10⟩ := h
  exact ⟨s1.of (e1 _ (by decide) (by decide) (by decide) (by decide)) (e1 _ (by decide) (by decide) (by decide) (by decide)) (e2 _ (by decide) (by decide) (by decide)) (fun zk a b => e2 _ (by omega) (by omega) (by omega)), s2.of (e1 _ (by decide) (by decide) (by decide) (by decide)) (e1 _ (by decide) (by decide) (by decide) (by decide)) (e2 _ (by decide) (by decide) (by decide)) (fun zk a b => e2 _ (by omega) (by omega) (by omega)), hX, s4.of (e1 _ (by decide) (by decide) (by decide) (by decide)) (e1 _ (by decide) (by decide) (by decide) (by decide)) (e2 _ (by decide) (by decide) (by decide)) (fun zk a b => e2 _ (by omega) (by omega) (by omega)), s5.of (e1 _ (by decide) (by decide) (by decide) (by decide)) (e1 _ (by decide) (by decide) (by decide) (by decide)) (e2 _ (by decide) (by decide) (by decide)) (fun zk a b => e2 _ (by omega) (by omega) (by omega)), s6.of (e1 _ (by decide) (by decide) (by decide) (by decide)) (e1 _ (by decide) (by decide) (by decide) (by decide)) (fun zk a b => e2 _ (by omega) (by omega) (by omega)), s7.of (e1 _ (by decide) (by decide) (by decide) (by decide)) (e1 _ (by decide) (by decide) (by decide) (by decide)) (fun zk a b => e2 _ (by omega) (by omega) (by omega)), s8.of (e1 _ (by decide) (by decide) (by decide) (by decide)) (e1 _ (by decide) (by decide) (by decide) (by decide)) (e2 _ (by decide) (by decide) (by decide)) (fun zk a b => e2 _ (by omega) (by omega) (by omega)), s9.of (e1 _ (by decide) (by decide) (by decide) (by decide)) (e1 _ (by decide) (by decide) (by decide) (by decide)) (e2 _ (by decide) (by decide) (by decide)) (fun zk a b => e2 _ (by omega) (by omega) (by omega)), s10.of (e1 _ (by decide) (by decide) (by decide) (by decide)) (e2 _ (by decide) (by decide) (by decide)) (e2 _ (by decide) (by decide) (by decide)) (e2 _ (by decide) (by decide) (by decide)) (e2 _ (by decide) (by decide) (by decide))⟩
theorem SR.w_sites (h : SR N P I 1 0) (hX : R_sites N P J 1 0) (e1 : ∀ zq, 1 ≤ zq → zq < 20 → zq ≠ 8 → zq ≠ 9 → J zq = I zq) (e2 : ∀ zj, zj < 1160 → zj ≠ 2 → (zj < 170 ∨ 202 ≤ zj) → J 68 zj = I 68 zj) : SR N P J 1 0 := by
  obtain ⟨s1, s2, s3, s4, s5, s6, s7, s8, s9, s10⟩ := h
  exact ⟨s1.of (e1 _ (by decide) (by decide) (by decide) (by decide)) (e1 _ (by decide) (by decide) (by decide) (by decide)) (e2 _ (by decide) (by decide) (by decide)) (fun zk a b => e2 _ (by omega) (by omega) (by omega)), s2.of (e1 _ (by decide) (by decide) (by decide) (by decide)) (e1 _ (by decide) (by decide) (by decide) (by decide)) (e2 _ (by decide) (by decide) (by decide)) (fun zk a b => e2 _ (by omega) (by omega) (by omega)), s3.of (e1 _ (by decide) (by decide) (by decide) (by decide)) (e1 _ (by decide) (by decide) (by decide) (by decide)) (e2 _ (by decide) (by decide) (by decide)) (fun zk a b => e2 _ (by omega) (by omega) (by omega)), hX, s5.of (e1 _ (by decide) (by decide) (by decide) (by decide)) (e1 _ (by decide) (by decide) (by decide) (by decide)) (e2 _ (by decide) (by decide) (by decide)) (fun zk a b => e2 _ (by omega) (by omega) (by omega)), s6.of (e1 _ (by decide) (by decide) (by decide) (by decide)) (e1 _ (by decide) (by decide) (by decide) (by decide)) (fun zk a b => e2 _ (by omega) (by omega) (by omega)), s7.of (e1 _ (by decide) (by decide) (by decide) (by decide)) (e1 _ (by decide) (by decide) (by decide) (by decide)) (fun zk a b => e2 _ (by omega) (by omega) (by omega)), s8.of (e1 _ (by decide) (by decide) (by decide) (by decide)) (e1 _ (by decide) (by decide) (by decide) (by decide)) (e2 _ (by decide) (by decide) (by decide)) (fun zk a b => e2 _ (by omega) (by omega) (by omega)), s9.of (e1 _ (by decide) (by decide) (by decide) (by decide)) (e1 _ (by decide) (by decide) (by decide) (by decide)) (e2 _ (by decide) (by decide) (by decide)) (fun zk a b => e2 _ (by omega) (by omega) (by omega)), s10.of (e1 _ (by decide) (by decide) (by decide) (by decide)) (e2 _ (by decide) (by decide) (by decide)) (e2 _ (by decide) (by decide) (by decide)) (e2 _ (by decide) (by decide) (by decide)) (e2 _ (by decide) (by decide) (by decide))⟩
theorem SR.w_needs (h : SR N P I 1 0) (hX : R_needs N P J 1 0) (e1 : ∀ zq, 1 ≤ zq → zq < 20 → zq ≠ 10 → zq ≠ 11 → J zq = I zq) (e2 : ∀ zj, zj < 1160 → zj ≠ 3 → (zj < 202 ∨ 218 ≤ zj) → J 68 zj = I 68 zj) : SR N P J 1 0 := by
  obtain ⟨s1, s2, s3, s4, s5, s6, s7, s8, s9, s10⟩ := h
  exact ⟨s1.of (e1 _ (by decide) (by decide) (by decide) (by decide)) (e1 _ (by decide) (by decide) (by decide) (by decide)) (e2 _ (by decide) (by decide) (by decide)) (fun zk a b => e2 _ (by omega) (by omega) (by omega)), s2.of (e1 _ (by decide) (by decide) (by decide) (by decide)) (e1 _ (by decide) (by decide) (by decide) (by decide)) (e2 _ (by decide) (by decide) (by decide)) (fun zk a b => e2 _ (by omega) (by omega) (by omega)), s3.of (e1 _ (by decide) (by decide) (by decide) (by decide)) (e1 _ (by decide) (by decide) (by decide) (by decide)) (e2 _ (by decide) (by decide) (by decide)) (fun zk a b => e2 _ (by omega) (by omega) (by omega)), s4.of (e1 _ (by decide) (by decide) (by decide) (by decide)) (e1 _ (by decide) (by decide) (by decide) (by decide)) (e2 _ (by decide) (by decide) (by decide)) (fun zk a b => e2 _ (by omega) (by omega) (by omega)), hX, s6.of (e1 _ (by decide) (by decide) (by decide) (by decide)) (e1 _ (by decide) (by decide) (by decide) (by decide)) (fun zk a b => e2 _ (by omega) (by omega) (by omega)), s7.of (e1 _ (by decide) (by decide) (by decide) (by decide)) (e1 _ (by decide) (by decide) (by decide) (by decide)) (fun zk a b => e2 _ (by omega) (by omega) (by omega)), s8.of (e1 _ (by decide) (by decide) (by decide) (by decide)) (e1 _ (by decide) (by decide) (by decide) (by decide)) (e2 _ (by decide) (by decide) (by decide)) (fun zk a b => e2 _ (by omega) (by omega) (by omega)), s9.of (e1 _ (by decide) (by decide) (by decide) (by decide)) (e1 _ (by decide) (by decide) (by decide) (by decide)) (e2 _ (by decide) (by decide) (by decide)) (fun zk a b => e2 _ (by omega) (by omega) (by omega)), s10.of (e1 _ (by decide) (by decide) (by decide) (by decide)) (e2 _ (by decide) (by decide) (by decide)) (e2 _ (by decide) (by decide) (by decide)) (e2 _ (by decide) (by decide) (by decide)) (e2 _ (by decide) (by decide) (by decide))⟩
theorem SR.w_stuffs (h : SR N P I 1 0) (hX : R_stuffs N P J 1 0) (e1 : ∀ zq, 1 ≤ zq → zq < 20 → zq ≠ 12 → zq ≠ 13 → J zq = I zq) (e2 : ∀ zj, zj < 1160 → (zj < 18 ∨ 28 ≤ zj) → J 68 zj = I 68 zj) : SR N P J 1 0 := by
  obtain ⟨s1, s2, s3, s4, s5, s6, s7, s8, s9, s10⟩ := h
  exact ⟨s1.of (e1 _ (by decide) (by decide) (by decide) (by decide)) (e1 _ (by decide) (by decide) (by decide) (by decide)) (e2 _ (by decide) (by decide)) (fun zk a b => e2 _ (by omega) (by omega)), s2.of (e1 _ (by decide) (by decide) (by decide) (by decide)) (e1 _ (by decide) (by decide) (by decide) (by decide)) (e2 _ (by decide) (by decide)) (fun zk a b => e2 _ (by omega) (by omega)), s3.of (e1 _ (by decide) (by decide) (by decide) (by decide)) (e1 _ (by decide) (by decide) (by decide) (by decide)) (e2 _ (by decide) (by decide)) (fun zk a b => e2 _ (by omega) (by omega)), s4.of (e1 _ (by decide) (by decide) (by decide) (by decide)) (e1 _ (by decide) (by decide) (by decide) (by decide)) (e2 _ (by decide) (by decide)) (fun zk a b => e2 _ (by omega) (by omega)), s5.of (e1 _ (by decide) (by decide) (by decide) (by decide)) (e1 _ (by decide) (by decide) (by decide) (by decide)) (e2 _ (by decide) (by decide)) (fun zk a b => e2 _ (by omega) (by omega)), hX, s7.of (e1 _ (by decide) (by decide) (by decide) (by decide)) (e1 _ (by decide) (by decide) (by decide) (by decide)) (fun zk a b => e2 _ (by omega) (by omega)), s8.of (e1 _ (by decide) (by decide) (by decide) (by decide)) (e1 _ (by decide) (by decide) (by decide) (by decide)) (e2 _ (by decide) (by decide)) (fun zk a b => e2 _ (by omega) (by omega)), s9.of (e1 _ (by decide) (by decide) (by decide) (by decide)) (e1 _ (by decide) (by decide) (by decide) (by decide)) (e2 _ (by decide) (by decide)) (fun zk a b => e2 _ (by omega) (by omega)), s10.of (e1 _ (by decide) (by decide) (by decide) (by decide)) (e2 _ (by decide) (by decide)) (e2 _ (by decide) (by decide)) (e2 _ (by decide) (by decide)) (e2 _ (by decide) (by decide))⟩
theorem SR.w_sets (h : SR N P I 1 0) (hX : R_sets N P J 1 0) (e1 : ∀ zq, 1 ≤ zq → zq < 20 → zq ≠ 14 → zq ≠ 15 → J zq = I zq) (e2 : ∀ zj, zj < 1160 → (zj < 11 ∨ 18 ≤ zj) → J 68 zj = I 68 zj) : SR N P J 1 0 := by
  obtain ⟨s1, s2, s3, s4, s5, s6, s7, s8, s9, s10⟩ := h
  exact ⟨s1.of (e1 _ (by decide) (by decide) (by decide) (by decide)) (e1 _ (by decide) (by decide) (by decide) (by decide)) (e2 _ (by decide) (by decide)) (fun zk a b => e2 _ (by omega) (by omega)), s2.of (e1 _ (by decide) (by decide) (by decide) (by decide)) (e1 _ (by decide) (by decide) (by decide) (by decide)) (e2 _ (by decide) (by decide)) (fun zk a b => e2 _ (by omega) (by omega)), s3.of (e1 _ (by decide) (by decide) (by decide) (by decide)) (e1 _ (by decide) (by decide) (by decide) (by decide)) (e2 _ (by decide) (by decide)) (fun zk a b => e2 _ (by omega) (by omega)), s4.of (e1 _ (by decide) (by decide) (by decide) (by decide)) (e1 _ (by decide) (by decide) (by decide) (by decide)) (e2 _ (by decide) (by decide)) (fun zk a b => e2 _ (by omega) (by omega)), s5.of (e1 _ (by decide) (by decide) (by decide) (by decide)) (e1 _ (by decide) (by decide) (by decide) (by decide)) (e2 _ (by decide) (by decide)) (fun zk a b => e2 _ (by omega) (by omega)), s6.of (e1 _ (by decide) (by decide) (by decide) (by decide)) (e1 _ (by decide) (by decide) (by decide) (by decide)) (fun zk a b => e2 _ (by omega) (by omega)), hX, s8.of (e1 _ (by decide) (by decide) (by decide) (by decide)) (e1 _ (by decide) (by decide) (by decide) (by decide)) (e2 _ (by decide) (by decide)) (fun zk a b => e2 _ (by omega) (by omega)), s9.of (e1 _ (by decide) (by decide) (by decide) (by decide)) (e1 _ (by decide) (by decide) (by decide) (by decide)) (e2 _ (by decide) (by decide)) (fun zk a b => e2 _ (by omega) (by omega)), s10.of (e1 _ (by decide) (by decide) (by decide) (by decide)) (e2 _ (by decide) (by decide)) (e2 _ (by decide) (by decide)) (e2 _ (by decide) (by decide)) (e2 _ (by decide) (by decide))⟩
theorem SR.w_lawt (h : SR N P I 1 0) (hX : R_lawt N P J 1 0) (e1 : ∀ zq, 1 ≤ zq → zq < 20 → zq ≠ 16 → zq ≠ 17 → J zq = I zq) (e2 : ∀ zj, zj < 1160 → zj ≠ 6 → (zj < 340 ∨ 660 ≤ zj) → J 68 zj = I 68 zj) : SR N P J 1 0 := by
  obtain ⟨s1, s2, s3, s4, s5, s6, s7, s8, s9, s10⟩ := h
  exact ⟨s1.of (e1 _ (by decide) (by decide) (by decide) (by decide)) (e1 _ (by decide) (by decide) (by decide) (by decide)) (e2 _ (by decide) (by decide) (by decide)) (fun zk a b => e2 _ (by omega) (by omega) (by omega)), s2.of (e1 _ (by decide) (by decide) (by decide) (by decide)) (e1 _ (by decide) (by decide) (by decide) (by decide)) (e2 _ (by decide) (by decide) (by decide)) (fun zk a b => e2 _ (by omega) (by omega) (by omega)), s3.of (e1 _ (by decide) (by decide) (by decide) (by decide)) (e1 _ (by decide) (by decide) (by decide) (by decide)) (e2 _ (by decide) (by decide) (by decide)) (fun zk a b => e2 _ (by omega) (by omega) (by omega)), s4.of (e1 _ (by decide) (by decide) (by decide) (by decide)) (e1 _ (by decide) (by decide) (by decide) (by decide)) (e2 _ (by decide) (by decide) (by decide)) (fun zk a b => e2 _ (by omega) (by omega) (by omega)), s5.of (e1 _ (by decide) (by decide) (by decide) (by decide)) (e1 _ (by decide) (by decide) (by decide) (by decide)) (e2 _ (by decide) (by decide) (by decide)) (fun zk a b => e2 _ (by omega) (by omega) (by omega)), s6.of (e1 _ (by decide) (by decide) (by decide) (by decide)) (e1 _ (by decide) (by decide) (by decide) (by decide)) (fun zk a b => e2 _ (by omega) (by omega) (by omega)), s7.of (e1 _ (by decide) (by decide) (by decide) (by decide)) (e1 _ (by decide) (by decide) (by decide) (by decide)) (fun zk a b => e2 _ (by omega) (by omega) (by omega)), hX, s9.of (e1 _ (by decide) (by decide) (by decide) (by decide)) (e1 _ (by decide) (by decide) (by decide) (by decide)) (e2 _ (by decide) (by decide) (by decide)) (fun zk a b => e2 _ (by omega) (by omega) (by omega)), s10.of (e1 _ (by decide) (by decide) (by decide) (by decide)) (e2 _ (by decide) (by decide) (by decide)) (e2 _ (by decide) (by decide) (by decide)) (e2 _ (by decide) (by decide) (by decide)) (e2 _ (by decide) (by decide) (by decide))⟩
theorem SR.w_walk (h : SR N P I 1 0) (hX : R_walk N P J 1 0) (e1 : ∀ zq, 1 ≤ zq → zq < 20 → zq ≠ 18 → zq ≠ 19 → J zq = I zq) (e2 : ∀ zj, zj < 1160 → zj ≠ 7 → (zj < 220 ∨ 340 ≤ zj) → J 68 zj = I 68 zj) : SR N P J 1 0 := by
  obtain ⟨s1, s2, s3, s4, s5, s6, s7, s8, s9, s10⟩ := h
  exact ⟨s1.of (e1 _ (by decide) (by decide) (by decide) (by decide)) (e1 _ (by decide) (by decide) (by decide) (by decide)) (e2 _ (by decide) (by decide) (by decide)) (fun zk a b => e2 _ (by omega) (by omega) (by omega)), s2.of (e1 _ (by decide) (by decide) (by decide) (by decide)) (e1 _ (by decide) (by decide) (by decide) (by decide)) (e2 _ (by decide) (by decide) (by decide)) (fun zk a b => e2 _ (by omega) (by omega) (by omega)), s3.of (e1 _ (by decide) (by decide) (by decide) (by decide)) (e1 _ (by decide) (by decide) (by decide) (by decide)) (e2 _ (by decide) (by decide) (by decide)) (fun zk a b => e2 _ (by omega) (by omega) (by omega)), s4.of (e1 _ (by decide) (by decide) (by decide) (by decide)) (e1 _ (by decide) (by decide) (by decide) (by decide)) (e2 _ (by decide) (by decide) (by decide)) (fun zk a b => e2 _ (by omega) (by omega) (by omega)), s5.of (e1 _ (by decide) (by decide) (by decide) (by decide)) (e1 _ (by decide) (by decide) (by decide) (by decide)) (e2 _ (by decide) (by decide) (by decide)) (fun zk a b => e2 _ (by omega) (by omega) (by omega)), s6.of (e1 _ (by decide) (by decide) (by decide) (by decide)) (e1 _ (by decide) (by decide) (by decide) (by decide)) (fun zk a b => e2 _ (by omega) (by omega) (by omega)), s7.of (e1 _ (by decide) (by decide) (by decide) (by decide)) (e1 _ (by decide) (by decide) (by decide) (by decide)) (fun zk a b => e2 _ (by omega) (by omega) (by omega)), s8.of (e1 _ (by decide) (by decide) (by decide) (by decide)) (e1 _ (by decide) (by decide) (by decide) (by decide)) (e2 _ (by decide) (by decide) (by decide)) (fun zk a b => e2 _ (by omega) (by omega) (by omega)), hX, s10.of (e1 _ (by decide) (by decide) (by decide) (by decide)) (e2 _ (by decide) (by decide) (by decide)) (e2 _ (by decide) (by decide) (by decide)) (e2 _ (by decide) (by decide) (by decide)) (e2 _ (by decide) (by decide) (by decide))⟩
theorem SR.w_flds (h : SR N P I 1 0) (hX : R_flds J 1 0) (e1 : ∀ zq, 1 ≤ zq → zq < 20 → zq ≠ 1 → J zq = I zq) (e2 : ∀ zj, zj < 1160 → zj ≠ 4 → zj ≠ 5 → zj ≠ 9 → zj ≠ 10 → J 68 zj = I 68 zj) : SR N P J 1 0 := by
  obtain ⟨s1, s2, s3, s4, s5, s6, s7, s8, s9, s10⟩ := h
  exact ⟨s1.of (e1 _ (by decide) (by decide) (by decide)) (e1 _ (by decide) (by decide) (by decide)) (e2 _ (by decide) (by decide) (by decide) (by decide) (by decide)) (fun zk a b => e2 _ (by omega) (by omega) (by omega) (by omega) (by omega)), s2.of (e1 _ (by decide) (by decide) (by decide)) (e1 _ (by decide) (by decide) (by decide)) (e2 _ (by decide) (by decide) (by decide) (by decide) (by decide)) (fun zk a b => e2 _ (by omega) (by omega) (by omega) (by omega) (by omega)), s3.of (e1 _ (by decide) (by decide) (by decide)) (e1 _ (by decide) (by decide) (by decide)) (e2 _ (by decide) (by decide) (by decide) (by decide) (by decide)) (fun zk a b => e2 _ (by omega) (by omega) (by omega) (by omega) (by omega)), s4.of (e1 _ (by decide) (by decide) (by decide)) (e1 _ (by decide) (by decide) (by decide)) (e2 _ (by decide) (by decide) (by decide) (by decide) (by decide)) (fun zk a b => e2 _ (by omega) (by omega) (by omega) (by omega) (by omega)), s5.of (e1 _ (by decide) (by decide) (by decide)) (e1 _ (by decide) (by decide) (by decide)) (e2 _ (by decide) (by decide) (by decide) (by decide) (by decide)) (fun zk a b => e2 _ (by omega) (by omega) (by omega) (by omega) (by omega)), s6.of (e1 _ (by decide) (by decide) (by decide)) (e1 _ (by decide) (by decide) (by decide)) (fun zk a b => e2 _ (by omega) (by omega) (by omega) (by omega) (by omega)), s7.of (e1 _ (by decide) (by decide) (by decide)) (e1 _ (by decide) (by decide) (by decide)) (fun zk a b => e2 _ (by omega) (by omega) (by omega) (by omega) (by omega)), s8.of (e1 _ (by decide) (by decide) (by decide)) (e1 _ (by decide) (by decide) (by decide)) (e2 _ (by decide) (by decide) (by decide) (by decide) (by decide)) (fun zk a b => e2 _ (by omega) (by omega) (by omega) (by omega) (by omega)), s9.of (e1 _ (by decide) (by decide) (by decide)) (e1 _ (by decide) (by decide) (by decide)) (e2 _ (by decide) (by decide) (by decide) (by decide) (by decide)) (fun zk a b => e2 _ (by omega) (by omega) (by omega) (by omega) (by omega)), hX⟩
end Stay
/-! the tape -/
def q_byte (x : Int32) (k : Nat) : Int32 := (x >>> (nI (24 - 8 * k) &&& 31)) &&& nI 255
theorem q_byte_rg (x : Int32) (k : Nat) : rg (q_byte x k) 255 := by
  unfold q_byte
  obtain ⟨j, h1, h2⟩ := pk_andE (x >>> (nI (24 - 8 * k) &&& 31)) (m := nI 255) 8 (by decide)
  rw [h2]
  exact rg.of (by omega) (by decide)
section Feed
variable {N : pN} {P : pR} {I : pI}
theorem c_feedOne (hG : GW N P) {zr : Nat} (hT : TB N P I 2 3 500 1 zr) (hr : zr + 4 ≤ 500) {zn : Nat} (hn : 16 < zn) (x : Int32) : ∃ J, f_X11_feedOne zn N I P 0 x = some J ∧ TB N P J 2 3 500 1 (zr + 4) ∧ (∀ zq, zq ≠ 2 → zq ≠ 3 → J zq = I zq) ∧ (∀ zj, zj < zr → J 3 zj = I 3 zj) ∧ ∀ zj, zj < 4 → J 3 (zr + zj) = q_byte x zj := by
  have hloop := p_loopI (B := B_X11_feedOne_3 N P 0 x) (zJ := fun zi (zs : Int32 × pI) => zs.1 = (if zi < 4 then nI (24 - 8 * zi) else -8) ∧ TB N P zs.2 2 3 500 1 (zr + zi) ∧ (∀ zq, zq ≠ 2 → zq ≠ 3 → zs.2 zq = I zq) ∧ (∀ zj, zj < zr → zs.2 3 zj = I 3 zj) ∧ ∀ zj, zj < zi → zs.2 3 (zr + zj) = q_byte x zj) (zE := fun (J : pI) => TB N P J 2 3 500 1 (zr + 4) ∧ (∀ zq, zq ≠ 2 → zq ≠ 3 → J zq = I zq) ∧ (∀ zj, zj < zr → J 3 zj = I 3 zj) ∧ ∀ zj, zj < 4 → J 3 (zr + zj) = q_byte x zj) (zm := 4) (zn := zn) (by omega) ?_ ?_ (nI 24, I) ⟨rfl, hT, fun _ _ _ => rfl, fun _ _ => rfl, fun zj hj => absurd hj (Nat.not_lt_zero zj)⟩
  · obtain ⟨J, k1, k2⟩ := hloop
    refine ⟨J, ?_, k2⟩
    unfold f_X11_feedOne
    rw [k1, Option.bind_some]
  · rintro zi hi ⟨zs, J⟩ ⟨e1, e2, e3, e4, e5⟩
    dsimp only at e1 e2 e3 e4 e5
    rw [if_pos hi] at e1
    subst e1
    left
    have hneg : ¬ nI (24 - 8 * zi) < 0 := nI_pos (by omega)
    have eadd := tb_add e2 (show zr + zi < 500 by omega)
    have tR := e2.rows (k := zr + zi + 1) (by omega)
    have eput := tb_put tR (show zr + zi < zr + zi + 1 by omega) (show 0 < 1 by decide) (v := (x >>> (nI (24 - 8 * zi) &&& 31)) &&& nI 255)
    have ez : (zr + zi) * 1 + 0 = zr + zi := by omega
    rw [ez] at eput
    have enx : nI (24 - 8 * zi) + (-8) = (if zi + 1 < 4 then nI (24 - 8 * (zi + 1)) else -8) := by
      have h4 : zi = 0 ∨ zi = 1 ∨ zi = 2 ∨ zi = 3 := by omega
      rcases h4 with h | h | h | h <;> subst h <;> decide
    refine ⟨(nI (24 - 8 * zi) + (-8), p_u (p_u J 2 3 (nI (zr + zi + 1))) 3 (zr + zi) (q_byte x zi)), ⟨enx, ?_, ?_, ?_, ?_⟩, fun zrec => ?_⟩
    · exact tR.cells (by decide)
    · intro zq a b
      dsimp only
      rw [p_u_ne b, p_u_ne a, e3 zq a b]
    · intro zj hj
      dsimp only
      rw [p_u_nk (by omega), p_u_ne (by decide), e4 zj hj]
    · intro zj hj
      dsimp only
      by_cases hz : zj = zi
      · rw [hz, p_u_self]
      · rw [p_u_nk (by omega), p_u_ne (by decide), e5 zj (by omega)]
    · unfold B_X11_feedOne_3
      dsimp only
      simp only [if_neg hneg, gp_0_0 hG, gp_1_0 hG, Option.bind_some, tb_size e2, eadd, eput]
      rfl
  · rintro ⟨zs, J⟩ ⟨e1, e2, e3, e4, e5⟩
    dsimp only at e1 e2 e3 e4 e5
    have hneg : zs < 0 := by rw [e1, if_neg (by decide)]; decide
    refine ⟨J, ⟨e2, e3, e4, e5⟩, fun zrec => ?_⟩
    unfold B_X11_feedOne_3
    dsimp only
    rw [if_pos hneg]
def q_pick (x1 x2 x3 x4 x5 : Int32) (i : Nat) : Int32 := if i < 4 then x1 else if i < 8 then x2 else if i < 12 then x3 else if i < 16 then x4 else x5
theorem m_feedL (hG : GW N P) {zr : Nat} (h8 : I 68 8 = nI zr) (hr : zr + 20 ≤ 500) {zn : Nat} (hn : 200 < zn) (x1 x2 x3 x4 x5 : Int32) : ∃ J, p_it (B_X12_feed_21 N P 67 x1 x2 x3 x4 x5) zn (nI 0, I) = some J ∧ (∀ zq, zq ≠ 68 → J zq = I zq) ∧ J 68 8 = nI (zr + 20) ∧ (∀ zj, zj ≠ 8 → (zj < 660 + zr ∨ 680 + zr ≤ zj) → J 68 zj = I 68 zj) ∧ ∀ zj, zj < 20 → J 68 (660 + zr + zj) = q_byte (q_pick x1 x2 x3 x4 x5 zj) (zj % 4) := by
  refine p_loopI (B := B_X12_feed_21 N P 67 x1 x2 x3 x4 x5) (zJ := fun zi (zs : Int32 × pI) => zs.1 = nI zi ∧ (∀ zq, zq ≠ 68 → zs.2 zq = I zq) ∧ zs.2 68 8 = nI (zr + zi) ∧ (∀ zj, zj ≠ 8 → (zj < 660 + zr ∨ 660 + zr + zi ≤ zj) → zs.2 68 zj = I 68 zj) ∧ ∀ zj, zj < zi → zs.2 68 (660 + zr + zj) = q_byte (q_pick x1 x2 x3 x4 x5 zj) (zj % 4)) (zE := fun (J : pI) => (∀ zq, zq ≠ 68 → J zq = I zq) ∧ J 68 8 = nI (zr + 20) ∧ (∀ zj, zj ≠ 8 → (zj < 660 + zr ∨ 680 + zr ≤ zj) → J 68 zj = I 68 zj) ∧ ∀ zj, zj < 20 → J 68 (660 + zr + zj) = q_byte (q_pick x1 x2 x3 x4 x5 zj) (zj % 4)) (zm := 20) (zn := zn) (by omega) ?_ ?_ (nI 0, I) ⟨rfl, fun _ _ => rfl, h8, fun _ _ _ => rfl, fun zj hj => absurd hj (Nat.not_lt_zero zj)⟩
  · rintro zi hi ⟨zs, J⟩ ⟨e1, e2, e3, e4, e5⟩
    dsimp only at e1 e2 e3 e4 e5
    subst e1
    left
    have hc : ¬ nI 20 ≤ nI zi := nI_ge hi (by decide)
    have i8 : p_ib N 68 (nI 8) = true := ib_68 hG (by decide)
    have c8 : (nI 8).toNatClampNeg = 8 := by decide
    have ia : nI 660 + nI (zr + zi) = nI (660 + zr + zi) := by rw [nI_add]; congr 1; omega
    have ib : p_ib N 68 (nI (660 + zr + zi)) = true := ib_68 hG (by omega)
    have ic : (nI (660 + zr + zi)).toNatClampNeg = 660 + zr + zi := nI_clamp (by omega)
    have ipk : (if nI 4 ≤ nI zi then (if nI 8 ≤ nI zi then (if nI 12 ≤ nI zi then (if nI 16 ≤ nI zi then x5 else x4) else x3) else x2) else x1) = q_pick x1 x2 x3 x4 x5 zi := by
      unfold q_pick
      by_cases g1 : zi < 4
      · rw [if_pos g1, if_neg (nI_ge g1 (by decide))]
      · rw [if_neg g1, if_pos (nI_le (by omega) (by omega))]
        by_cases g2 : zi < 8
        · rw [if_pos g2, if_neg (nI_ge g2 (by decide))]
        · rw [if_neg g2, if_pos (nI_le (by omega) (by omega))]
          by_cases g3 : zi < 12
          · rw [if_pos g3, if_neg (nI_ge g3 (by decide))]
          · rw [if_neg g3, if_pos (nI_le (by omega) (by omega))]
            by_cases g4 : zi < 16
            · rw [if_pos g4, if_neg (nI_ge g4 (by decide))]
            · rw [if_neg g4, if_pos (nI_le (by omega) (by omega))]
    have ish : nI 24 - nI 8 * (nI zi - nI zi / nI 4 * nI 4) = nI (24 - 8 * (zi % 4)) := by
      rw [pk_rem (by omega) (by decide) (by decide), pk_mul, pk_sub (by omega)]
    refine ⟨(nI (zi + 1), p_u (p_u J 68 (660 + zr + zi) (q_byte (q_pick x1 x2 x3 x4 x5 zi) (zi % 4))) 68 8 (nI (zr + zi + 1))), ⟨rfl, ?_, ?_, ?_, ?_⟩, fun zrec => ?_⟩
    · intro zq a
      dsimp only
      rw [p_u_ne a, p_u_ne a, e2 zq a]
    · dsimp only
      rw [p_u_self, Nat.add_assoc]
    · intro zj a b
      dsimp only
      rw [p_u_nk a, p_u_nk (by omega), e4 zj a (by omega)]
    · intro zj hj
      dsimp only
      rw [p_u_nk (by omega)]
      by_cases hz : zj = zi
      · rw [hz, p_u_self]
      · rw [p_u_nk (by omega), e5 zj (by omega)]
    · unfold B_X12_feed_21
      dsimp only
      rw [if_neg hc, ipk, n_let]
      simp only [gp_67_0 hG, Option.bind_some, n_ck i8, c8, e3, ia, n_ck ib, ic, ish, n_let]
      rw [p_u_nk (by omega), e3, nI_add, nI_add]
      rfl
  · rintro ⟨zs, J⟩ ⟨e1, e2, e3, e4, e5⟩
    dsimp only at e1 e2 e3 e4 e5
    subst e1
    refine ⟨J, ⟨e2, e3, fun zj a b => e4 zj a (by omega), e5⟩, fun zrec => ?_⟩
    unfold B_X12_feed_21
    dsimp only
    rw [if_pos (by decide)]
end Feed
theorem sp_feed {n zk : Nat} (hn : 200 < n) : Sp_feed n (Ivv zk) (Ivv (zk + 1)) := by
  intro N I L P h x1 x2 x3 x4 x5
  have h : IV zk N P I := h
  have hG := h.gw
  obtain ⟨r8, t8, c8⟩ := h.sr.rt
  have r8 : rg (I 68 8) 500 := r8
  have t8 : TB N P I 2 3 500 1 (nv (I 68 8)) := t8
  have i8 : p_ib N 68 (nI 8) = true := ib_68 hG (by decide)
  have k8 : (nI 8).toNatClampNeg = 8 := by decide
  have hr := r8.2
  have e8 := r8.1
  generalize hzr : nv (I 68 8) = zr at t8 c8 hr e8
  by_cases hc : zr + 20 ≤ 500
  · have hc2 : nI (zr + 20) ≤ nI 500 := nI_le hc (by decide)
    obtain ⟨J1, a1, a2, a3, a4, a5⟩ := c_feedOne hG t8 (by omega) (zn := n) (by omega) x1
    obtain ⟨J2, b1, b2, b3, b4, b5⟩ := c_feedOne hG a2 (by omega) (zn := n) (by omega) x2
    obtain ⟨J3, d1, d2, d3, d4, d5⟩ := c_feedOne hG b2 (by omega) (zn := n) (by omega) x3
    obtain ⟨J4, f1, f2, f3, f4, f5⟩ := c_feedOne hG d2 (by omega) (zn := n) (by omega) x4
    obtain ⟨J5, g1, g2, g3, g4, g5⟩ := c_feedOne hG f2 (by omega) (zn := n) (by omega) x5
    have hfr : ∀ zq, zq ≠ 2 → zq ≠ 3 → J5 zq = I zq := fun zq a b => by rw [g3 zq a b, f3 zq a b, d3 zq a b, b3 zq a b, a3 zq a b]
    obtain ⟨K, m1, m2, m3, m4, m5⟩ := m_feedL hG (I := J5) (zr := zr) (by rw [hfr 68 (by decide) (by decide)]; exact e8) hc hn x1 x2 x3 x4 x5
    have hKc : ∀ zq, zq ≠ 2 → zq ≠ 3 → zq ≠ 68 → K zq = I zq := fun zq a b c => by rw [m2 zq c, hfr zq a b]
    have hcell : ∀ zj, zj < zr → J5 3 zj = I 3 zj := fun zj hj => by rw [g4 zj (by omega), f4 zj (by omega), d4 zj (by omega), b4 zj (by omega), a4 zj hj]
    have hnew : ∀ zj, zj < 20 → J5 3 (zr + zj) = q_byte (q_pick x1 x2 x3 x4 x5 zj) (zj % 4) := fun zj hj => by
      unfold q_pick
      by_cases k1 : zj < 4
      · rw [if_pos k1, g4 _ (by omega), f4 _ (by omega), d4 _ (by omega), b4 _ (by omega), a5 zj k1]
        congr 1; omega
      · rw [if_neg k1]
        by_cases k2 : zj < 8
        · have q := b5 (zj - 4) (by omega)
          rw [show zr + 4 + (zj - 4) = zr + zj by omega] at q
          rw [if_pos k2, g4 _ (by omega), f4 _ (by omega), d4 _ (by omega), q]
          congr 1; omega
        · rw [if_neg k2]
          by_cases k3 : zj < 12
          · have q := d5 (zj - 8) (by omega)
            rw [show zr + 4 + 4 + (zj - 8) = zr + zj by omega] at q
            rw [if_pos k3, g4 _ (by omega), f4 _ (by omega), q]
            congr 1; omega
          · rw [if_neg k3]
            by_cases k4 : zj < 16
            · have q := f5 (zj - 12) (by omega)
              rw [show zr + 4 + 4 + 4 + (zj - 12) = zr + zj by omega] at q
              rw [if_pos k4, g4 _ (by omega), q]
              congr 1; omega
            · have q := g5 (zj - 16) (by omega)
              rw [show zr + 4 + 4 + 4 + 4 + (zj - 16) = zr + zj by omega] at q
              rw [if_neg k4, q]
              congr 1; omega
    have hsz : f_X8_size J5 2 = some (nI (zr + 20)) := tb_size g2
    refine ⟨(nI (zr + 20), J5), (nI (zr + 20), K), ?_, ?_, rfl, ?_⟩
    · unfold f_X11_feed
      simp only [gp_0_0 hG, gp_1_0 hG, Option.bind_some, tb_size t8, nI_add, if_pos hc2, a1, b1, d1, f1, g1, hsz]
    · have e9 : J5 68 8 = nI zr := by rw [hfr 68 (by decide) (by decide)]; exact e8
      unfold f_X12_feed
      simp only [gp_67_0 hG, Option.bind_some, n_ck i8, k8, e9, nI_add, if_pos hc2, m1, m3]
    · show IV (zk + 1) N P K
      refine IV.up (IV.stay h (h.sr.w_tape ?_ (fun zq a b c d => hKc zq c d (by omega)) (fun zj a b c => ?_)) (fun zq a b => hKc zq (by omega) (by omega) (by omega)) (fun zj hj => ?_))
      · have e10 : nv (K 68 (8 + 0)) = zr + 20 := by
          show nv (K 68 8) = _
          rw [m3]; exact nI_clamp (by omega)
        refine ⟨?_, ?_, ?_⟩
        · show rg (K 68 8) 500
          rw [m3]; exact rg.of hc (by decide)
        · rw [e10]
          exact g2.of (fun zi => by rw [m2 2 (by decide)])
        · intro zi hi
          rw [e10] at hi
          show K 3 zi = K 68 (660 + zi) ∧ rg (K 3 zi) 255
          rw [m2 3 (by decide)]
          by_cases hz : zi < zr
          · rw [hcell zi hz, m4 _ (by omega) (by omega), hfr 68 (by decide) (by decide)]
            exact c8 zi hz
          · obtain ⟨zj, rfl⟩ : ∃ zj, zi = zr + zj := ⟨zi - zr, by omega⟩
            rw [hnew zj (by omega), ← Nat.add_assoc, m5 zj (by omega)]
            exact ⟨rfl, q_byte_rg _ _⟩
      · rw [m4 zj b (by omega), hfr 68 (by decide) (by decide)]
      · rw [m4 zj (by unfold q_tw at hj; omega) (by unfold q_tw at hj; omega), hfr 68 (by decide) (by decide)]
  · have hc2 : ¬ nI (zr + 20) ≤ nI 500 := nI_ge (by omega) (by omega)
    refine ⟨(-1, I), (-1, I), ?_, ?_, rfl, h.up⟩
    · unfold f_X11_feed
      simp only [gp_0_0 hG, gp_1_0 hG, Option.bind_some, tb_size t8, nI_add, if_neg hc2]
    · unfold f_X12_feed
      simp only [gp_67_0 hG, Option.bind_some, n_ck i8, k8, e8, nI_add, if_neg hc2]
theorem sp_end {n zk : Nat} : Sp_end n (Ivv zk) (Ivv (zk + 1)) := by
  intro N I L P h x1
  have h : IV zk N P I := h
  have hG := h.gw
  obtain ⟨r8, t8, c8⟩ := h.sr.rt
  have r8 : rg (I 68 8) 500 := r8
  have t8 : TB N P I 2 3 500 1 (nv (I 68 8)) := t8
  have i8 : p_ib N 68 (nI 8) = true := ib_68 hG (by decide)
  have k8 : (nI 8).toNatClampNeg = 8 := by decide
  have hr := r8.2
  have e8 := r8.1
  by_cases h1 : x1 < 0
  · refine ⟨(-1, I), (-1, I), ?_, ?_, rfl, h.up⟩
    · unfold f_X11_end; rw [if_pos h1]
    · unfold f_X12_end; rw [if_pos h1]
  · by_cases h2 : x1 ≤ I 68 8
    · obtain ⟨zx, hx1, hx2⟩ := nI_of h1
      have hle : zx ≤ nv (I 68 8) := by
        rw [hx2, e8] at h2
        exact (nI_leI hx1 (by omega)).mp h2
      have hcut := tb_cut t8 hle
      have h2b : x1 ≤ nI (nv (I 68 8)) := by rw [← e8]; exact h2
      refine ⟨(x1, p_u I 2 3 x1), (x1, p_u (p_u I 2 3 x1) 68 8 x1), ?_, ?_, rfl, ?_⟩
      · unfold f_X11_end
        rw [← hx2] at hcut
        simp only [if_neg h1, gp_0_0 hG, gp_1_0 hG, Option.bind_some, tb_size t8, if_pos h2b, hcut]
      · unfold f_X12_end
        have e9 : p_u I 2 3 x1 68 8 = I 68 8 := by rw [p_u_ne (by decide)]
        simp only [if_neg h1, gp_67_0 hG, Option.bind_some, n_ck i8, k8, e9, if_pos h2, n_let]
      · show IV (zk + 1) N P (p_u (p_u I 2 3 x1) 68 8 x1)
        refine IV.up (IV.stay h (h.sr.w_tape ?_ (fun zq a b c d => ?_) (fun zj a b c => ?_)) (fun zq a b => ?_) (fun zj hj => ?_))
        · have e10 : nv (p_u (p_u I 2 3 x1) 68 8 x1 68 (8 + 0)) = zx := by
            show nv (p_u (p_u I 2 3 x1) 68 8 x1 68 8) = _
            rw [p_u_self, hx2]; exact nI_clamp (by omega)
          refine ⟨?_, ?_, ?_⟩
          · show rg (p_u (p_u I 2 3 x1) 68 8 x1 68 8) 500
            rw [p_u_self, hx2]; exact rg.of (by omega) (by decide)
          · rw [e10]
            have tR := t8.rows (k := zx) (by omega)
            rw [← hx2] at tR
            exact tR.of (fun zi => p_u_x (by decide))
          · intro zi hi
            rw [e10] at hi
            have h9 := c8 zi (show zi < nv (I 68 8) by omega)
            rw [p_u_ne (by decide), p_u_ne (by decide), p_u_nk (by omega), p_u_ne (by decide)]
            exact h9
        · rw [p_u_ne (by omega), p_u_ne c]
        · rw [p_u_nk b, p_u_ne (by decide)]
        · rw [p_u_ne (by omega), p_u_ne (by omega)]
        · rw [p_u_nk (by unfold q_tw at hj; omega), p_u_ne (by decide)]
    · have h2b : ¬ x1 ≤ nI (nv (I 68 8)) := by rw [← e8]; exact h2
      refine ⟨(-1, I), (-1, I), ?_, ?_, rfl, h.up⟩
      · unfold f_X11_end
        simp only [if_neg h1, gp_0_0 hG, gp_1_0 hG, Option.bind_some, tb_size t8, if_neg h2b]
      · unfold f_X12_end
        simp only [if_neg h1, gp_67_0 hG, Option.bind_some, n_ck i8, k8, if_neg h2]
theorem sp_fault {n zk : Nat} : Sp_fault n (Ivv zk) (Ivv (zk + 1)) := by
  intro N I L P h x1
  have h : IV zk N P I := h
  have hG := h.gw
  have e9 : I 1 9 = I 68 9 := h.sr.rf.1
  have e10 : I 1 10 = I 68 10 := h.sr.rf.2.1
  have i9 : p_ib N 68 (nI 9) = true := ib_68 hG (by decide)
  have i10 : p_ib N 68 (nI 10) = true := ib_68 hG (by decide)
  have k9 : (nI 9).toNatClampNeg = 9 := by decide
  have k10 : (nI 10).toNatClampNeg = 10 := by decide
  have z0 : (nI 0 : Int32) = 0 := rfl
  by_cases h1 : x1 = 0
  · refine ⟨I 68 9, I 68 9, ?_, ?_, rfl, h.up⟩
    · unfold f_X11_fault
      simp only [z0, if_pos h1, gp_0_0 hG, Option.bind_some, e9]
    · unfold f_X12_fault
      simp only [if_pos h1, gp_67_0 hG, Option.bind_some, n_ck i9, k9]
  · by_cases h2 : x1 = nI 1
    · refine ⟨I 68 10, I 68 10, ?_, ?_, rfl, h.up⟩
      · unfold f_X11_fault
        simp only [z0, if_neg h1, if_pos h2, gp_0_0 hG, Option.bind_some, e10]
      · unfold f_X12_fault
        simp only [if_neg h1, if_pos h2, gp_67_0 hG, Option.bind_some, n_ck i10, k10]
    · refine ⟨-1, -1, ?_, ?_, rfl, h.up⟩
      · unfold f_X11_fault
        simp only [z0, if_neg h1, if_neg h2]
      · unfold f_X12_fault
        simp only [if_neg h1, if_neg h2]
theorem sp_unwalk {n zk : Nat} : Sp_unwalk n (Ivv zk) (Ivv (zk + 1)) := by
  intro N I L P h
  have h : IV zk N P I := h
  have hG := h.gw
  obtain ⟨r7, t7, c7⟩ := h.sr.rk
  have t7 : TB N P I 18 19 60 2 (nv (I 68 7)) := t7
  have i7 : p_ib N 68 (nI 7) = true := ib_68 hG (by decide)
  have k7 : (nI 7).toNatClampNeg = 7 := by decide
  have hcut := tb_cut t7 (Nat.zero_le _)
  refine ⟨p_u I 18 3 (nI 0), p_u (p_u I 18 3 (nI 0)) 68 7 (nI 0), ?_, ?_, ?_⟩
  · unfold f_X11_unwalk
    simp only [gp_0_0 hG, gp_1_8 hG, Option.bind_some, hcut]
  · unfold f_X12_unwalk
    simp only [gp_67_0 hG, Option.bind_some, n_ck i7, k7, n_let]
  · show IV (zk + 1) N P (p_u (p_u I 18 3 (nI 0)) 68 7 (nI 0))
    refine IV.up (IV.stay h (h.sr.w_walk ?_ (fun zq a b c d => ?_) (fun zj a b c => ?_)) (fun zq a b => ?_) (fun zj hj => ?_))
    · have e10 : nv (p_u (p_u I 18 3 (nI 0)) 68 7 (nI 0) 68 (7 + 0)) = 0 := by
        show nv (p_u (p_u I 18 3 (nI 0)) 68 7 (nI 0) 68 7) = _
        rw [p_u_self]; decide
      refine ⟨?_, ?_, ?_⟩
      · show rg (p_u (p_u I 18 3 (nI 0)) 68 7 (nI 0) 68 7) 60
        rw [p_u_self]; exact rg.of (by omega) (by decide)
      · rw [e10]
        exact (t7.rows (k := 0) (by omega)).of (fun zi => p_u_x (by decide))
      · intro zi hi
        rw [e10] at hi
        omega
    · rw [p_u_ne (by omega), p_u_ne c]
    · rw [p_u_nk b, p_u_ne (by decide)]
    · rw [p_u_ne (by omega), p_u_ne (by omega)]
    · rw [p_u_nk (by unfold q_tw at hj; omega), p_u_ne (by decide)]
theorem sp_step {n zk : Nat} : Sp_step n (Ivv zk) (Ivv (zk + 1)) := by
  intro N I L P h x1 x2
  have h : IV zk N P I := h
  have hG := h.gw
  obtain ⟨r7, t7, c7⟩ := h.sr.rk
  have r7 : rg (I 68 7) 60 := r7
  have t7 : TB N P I 18 19 60 2 (nv (I 68 7)) := t7
  have i7 : p_ib N 68 (nI 7) = true := ib_68 hG (by decide)
  have k7 : (nI 7).toNatClampNeg = 7 := by decide
  have hr := r7.2
  have e7 := r7.1
  generalize hzr : nv (I 68 7) = zr at t7 c7 hr e7
  rcases Bool.eq_false_or_eq_true (q_pt x1 x2) with hp | hp
  · by_cases hf : zr = 60
    · have hadd := tb_add_f t7 hf
      have e60 : I 68 7 = nI 60 := by rw [e7, hf]
      refine ⟨(-1, I), (-1, I), ?_, ?_, rfl, h.up⟩
      · unfold f_X11_step
        simp only [gp_0_0 hG, gp_1_8 hG, Option.bind_some, tb_size t7, c_point, hp, bI_ift, hadd, n_00, if_true]
      · unfold f_X12_step
        simp only [gp_67_0 hG, Option.bind_some, n_ck i7, k7, if_pos e60]
    · have hadd := tb_add t7 (show zr < 60 by omega)
      have tR := t7.rows (k := zr + 1) (by omega)
      have ep1 := tb_put tR (show zr < zr + 1 by omega) (show 0 < 2 by decide) (v := x1)
      have tR2 := tR.cells (k := zr * 2 + 0) (v := x1) (by decide)
      have ep2 := tb_put tR2 (show zr < zr + 1 by omega) (show 1 < 2 by decide) (v := x2)
      have tR3 := tR2.cells (k := zr * 2 + 1) (v := x2) (by decide)
      have e60 : ¬ I 68 7 = nI 60 := by
        rw [e7]
        exact fun e => hf ((nI_eq (by omega) (by decide)).mp e)
      obtain ⟨zx, zy, hx, hy, ex, ey⟩ := q_ptx hp
      generalize hJ : p_u (p_u (p_u I 18 3 (nI (zr + 1))) 19 (zr * 2 + 0) x1) 19 (zr * 2 + 1) x2 = J at ep2 tR3
      have hJ68 : J 68 = I 68 := by rw [← hJ, p_u_ne (by decide), p_u_ne (by decide), p_u_ne (by decide)]
      have hJq : ∀ zq, zq ≠ 18 → zq ≠ 19 → J zq = I zq := fun zq a b => by rw [← hJ, p_u_ne b, p_u_ne b, p_u_ne a]
      have hJc : ∀ zj, zj < zr * 2 → J 19 zj = I 19 zj := fun zj a => by rw [← hJ, p_u_nk (by omega), p_u_nk (by omega), p_u_ne (by decide)]
      have hJ0 : J 19 (zr * 2 + 0) = x1 := by rw [← hJ, p_u_nk (by omega), p_u_self]
      have hJ1 : J 19 (zr * 2 + 1) = x2 := by rw [← hJ, p_u_self]
      have i20 : p_ib N 68 (nI (220 + 2 * zr)) = true := ib_68 hG (by omega)
      have k20 : (nI (220 + 2 * zr)).toNatClampNeg = 220 + 2 * zr := nI_clamp (by omega)
      have i21 : p_ib N 68 (nI (220 + 2 * zr + 1)) = true := ib_68 hG (by omega)
      have k21 : (nI (220 + 2 * zr + 1)).toNatClampNeg = 220 + 2 * zr + 1 := nI_clamp (by omega)
      refine ⟨(nI (zr + 1), J), (nI (zr + 1), p_u (p_u (p_u J 68 (220 + 2 * zr) x1) 68 (220 + 2 * zr + 1) x2) 68 7 (nI (zr + 1))), ?_, ?_, rfl, ?_⟩
      · unfold f_X11_step
        simp only [gp_0_0 hG, gp_1_8 hG, Option.bind_some, tb_size t7, c_point, hp, bI_ift, hadd, n_10, if_false, ep1, ep2, tb_size tR3]
      · have w1 : J 68 7 = nI zr := by rw [hJ68]; exact e7
        have w2 : p_u J 68 (220 + 2 * zr) x1 68 7 = nI zr := by rw [p_u_nk (by omega)]; exact w1
        have w3 : p_u (p_u J 68 (220 + 2 * zr) x1) 68 (220 + 2 * zr + 1) x2 68 7 = nI zr := by rw [p_u_nk (by omega)]; exact w2
        have e60b : ¬ nI zr = nI 60 := by rw [← e7]; exact e60
        unfold f_X12_step
        simp only [gp_67_0 hG, Option.bind_some, n_ck i7, k7, if_neg e60b, m_point, hp, bI_ift, w1, pk_mul, nI_add, n_ck i20, k20, n_let, w2, n_ck i21, k21, w3, p_u_self]
      · show IV (zk + 1) N P (p_u (p_u (p_u J 68 (220 + 2 * zr) x1) 68 (220 + 2 * zr + 1) x2) 68 7 (nI (zr + 1)))
        refine IV.up (IV.stay h (h.sr.w_walk ?_ (fun zq a b c d => ?_) (fun zj a b c => ?_)) (fun zq a b => ?_) (fun zj hj => ?_))
        · have e10 : nv (p_u (p_u (p_u J 68 (220 + 2 * zr) x1) 68 (220 + 2 * zr + 1) x2) 68 7 (nI (zr + 1)) 68 (7 + 0)) = zr + 1 := by
            show nv (p_u (p_u (p_u J 68 (220 + 2 * zr) x1) 68 (220 + 2 * zr + 1) x2) 68 7 (nI (zr + 1)) 68 7) = _
            rw [p_u_self]; exact nI_clamp (by omega)
          refine ⟨?_, ?_, ?_⟩
          · show rg (p_u (p_u (p_u J 68 (220 + 2 * zr) x1) 68 (220 + 2 * zr + 1) x2) 68 7 (nI (zr + 1)) 68 7) 60
            rw [p_u_self]; exact rg.of (by omega) (by decide)
          · rw [e10]
            exact tR3.of (fun zi => by rw [p_u_ne (by decide), p_u_ne (by decide), p_u_ne (by decide)])
          · intro zw hw zj hj
            rw [e10] at hw
            show p_u (p_u (p_u J 68 (220 + 2 * zr) x1) 68 (220 + 2 * zr + 1) x2) 68 7 (nI (zr + 1)) 19 (zw * 2 + zj) = p_u (p_u (p_u J 68 (220 + 2 * zr) x1) 68 (220 + 2 * zr + 1) x2) 68 7 (nI (zr + 1)) 68 (220 + 2 * zw + zj) ∧ rg (p_u (p_u (p_u J 68 (220 + 2 * zr) x1) 68 (220 + 2 * zr + 1) x2) 68 7 (nI (zr + 1)) 68 (220 + 2 * zw + zj)) 20
            rw [p_u_ne (by decide), p_u_ne (by decide), p_u_ne (by decide), p_u_nk (by omega)]
            by_cases hz : zw = zr
            · subst hz
              have hj2 : zj = 0 ∨ zj = 1 := by omega
              rcases hj2 with hj2 | hj2
              · subst hj2
                rw [hJ0, p_u_nk (by omega), Nat.add_zero, p_u_self, ex]
                exact ⟨rfl, rg.of hx (by decide)⟩
              · subst hj2
                rw [hJ1, p_u_self, ey]
                exact ⟨rfl, rg.of hy (by decide)⟩
            · rw [p_u_nk (by omega), p_u_nk (by omega), hJc _ (by omega), hJ68]
              exact c7 zw (by omega) zj hj
        · rw [p_u_ne (by omega), p_u_ne (by omega), p_u_ne (by omega), hJq zq c d]
        · rw [p_u_nk b, p_u_nk (by omega), p_u_nk (by omega), hJ68]
        · rw [p_u_ne (by omega), p_u_ne (by omega), p_u_ne (by omega), hJq zq (by omega) (by omega)]
        · unfold q_tw at hj
          rw [p_u_nk (by omega), p_u_nk (by omega), p_u_nk (by omega), hJ68]
  · refine ⟨(-1, I), (-1, I), ?_, ?_, rfl, h.up⟩
    · unfold f_X11_step
      simp only [gp_0_0 hG, gp_1_8 hG, Option.bind_some, tb_size t7, c_point, hp, bI_iff]
    · unfold f_X12_step
      simp only [gp_67_0 hG, Option.bind_some, n_ck i7, k7, m_point, hp, bI_iff, ite_self]
