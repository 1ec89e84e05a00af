/-! the reference: signals and their row -/
theorem q_take {l : List qW} {zk : Nat} {zq : qW} (h1 : l[zk]? = some zq) : q_sum (l.take (zk + 1)) = q_sum (l.take zk) + zq.2.2.2.2.2 := by
  rw [List.take_succ, h1]
  exact q_sum_app
section Model10
variable {N : pN} {P : pR} {I : pI} {L : pL} {T : Nat → Int32} {fx fy pw tx ty : Int32}
theorem m_sum (hG : GW N P) {l : List qW} (hM : q_MR I l) (hlen : l.length < 200) {zn : Nat} (hn : 200 < zn) : f_X12_sum zn N I P 67 = some (q_sum l) := by
  have hloop := p_loopI (B := B_X12_sum_4 N I P 67) (zJ := fun zk (zs : Int32 × Int32) => zs = (q_sum (l.take zk), nI zk)) (zE := fun zt => zt = q_sum l) (zm := l.length) (zn := zn) (by omega) ?_ ?_ (nI 0, nI 0) rfl
  · obtain ⟨zt, h1, h2⟩ := hloop
    unfold f_X12_sum
    rw [h1, Option.bind_some, h2]
  · rintro zk hk zs e1
    subst e1
    left
    have hq : l[zk]? = some l[zk] := List.getElem?_eq_getElem hk
    have hc : ¬ I 67 13 ≤ nI zk := by rw [hM.1]; exact nI_ge hk (by omega)
    have hv := (hM.2 zk _ hq).2.2.2.2.2
    refine ⟨(q_sum (l.take (zk + 1)), nI (zk + 1)), rfl, fun zrec => ?_⟩
    unfold B_X12_sum_4
    dsimp only
    rw [if_neg hc, gp_67_12 hG, Option.bind_some, n_ck (n_ib (gn_75 hG) (by omega) (by decide)), n_let, nI_clamp (by omega), hv, nI_add, q_take hq]
  · rintro zs e1
    subst e1
    have hc : I 67 13 ≤ nI l.length := by rw [hM.1]; exact Int32.le_refl _
    refine ⟨q_sum l, rfl, fun zrec => ?_⟩
    unfold B_X12_sum_4
    dsimp only
    rw [if_pos hc, List.take_length]
theorem m_senderOf (hG : GW N P) {zs zk : Nat} (hs : zs < 6) (hk : zk < 8) : f_X12_senderOf N I P 67 (nI zs) (nI zk) = some (I 68 (120 + 8 * zs + zk)) := by
  have e1 : nI 120 + nI 8 * nI zs + nI zk = nI (120 + 8 * zs + zk) := by rw [pk_mul, nI_add, nI_add]
  unfold f_X12_senderOf
  rw [gp_67_0 hG, Option.bind_some, e1, n_ck (ib_68 hG (by omega)), nI_clamp (by omega)]
/-- what a search with its source leaves as it was -/
def q_sFr (I J : pI) : Prop := (∀ zx, zx ≠ 67 → zx < 70 ∨ 75 < zx → J zx = I zx) ∧ ∀ zj, zj ≠ 6 → zj ≠ 13 → zj < 14 ∨ 18 < zj → J 67 zj = I 67 zj
/-- from a source to a target: the sum of all ways -/
theorem m_find (hG : GW N P) (hwf : q_wf4 (I 68)) (hwf2 : q_wf2 (I 68)) (hf1 : rg fx 20) (hf2 : rg fy 20) (ht1 : rg tx 20) (ht2 : rg ty 20) {zn : Nat} (hn : 200 < zn) : ∃ J0 J K, f_X12_from I 67 fx fy pw = some J0 ∧ f_X12_tries zn N J0 L P 67 tx ty = some (J, K) ∧ f_X12_sum zn N J P 67 = some (q_sig (I 68) fx fy pw tx ty) ∧ q_MR J (q_all (I 68) fx fy pw tx ty) ∧ q_sFr I J ∧ (∀ zq, zq ≠ 67 → K zq = L zq) ∧ J0 68 = I 68 := by
  have hJ68 : p_u (p_u (p_u I 67 14 fx) 67 15 fy) 67 18 pw 68 = I 68 := by rw [p_u_ne (by decide), p_u_ne (by decide), p_u_ne (by decide)]
  obtain ⟨J, K, k1, k2, k3, k4⟩ := m_tries (I := p_u (p_u (p_u I 67 14 fx) 67 15 fy) 67 18 pw) (L := L) (T := I 68) (fx := fx) (fy := fy) (pw := pw) hG hwf hwf2 hf1 hf2 ht1 ht2 (zn := zn) (by omega) hJ68 (by rw [p_u_nk (by decide), p_u_nk (by decide), p_u_self]) (by rw [p_u_nk (by decide), p_u_self]) p_u_self
  have hl : (q_all (I 68) fx fy pw tx ty).length < 200 := by
    have h12 := hwf.1.2
    have a1 : (q_S (I 68) fx fy pw tx ty).length ≤ 1 := q_add_len
    have a2 : (if I 68 11 ≤ 0 then ([] : List qW) else q_cat (q_MPs (I 68) fx fy pw tx ty) (nv (I 68 0))).length ≤ 156 := by
      split
      · exact Nat.zero_le _
      · have := q_cat_len (f := q_MPs (I 68) fx fy pw tx ty) (zc := 13) (nv (I 68 0)) (fun zv _ => q_MPs_len h12)
        omega
    have a3 : (if (q_sg (I 68) fx fy pw tx ty).2 = false ∨ I 68 12 ≤ 0 then ([] : List qW) else q_cat (q_Cs (I 68) fx fy pw tx ty) (nv (I 68 0))).length ≤ 24 := by
      split
      · exact Nat.zero_le _
      · have := q_cat_len (f := q_Cs (I 68) fx fy pw tx ty) (zc := 2) (nv (I 68 0)) (fun zv _ => q_Cs_len)
        omega
    unfold q_all
    rw [List.length_append, List.length_append]
    omega
  refine ⟨_, J, K, rfl, k1, m_sum hG k2 hl hn, k2, ⟨fun zx a b => ?_, fun zj a b c => ?_⟩, k4, hJ68⟩
  · rw [k3.1 zx a b, p_u_ne a, p_u_ne a, p_u_ne a]
  · rw [k3.2 zj a b (by omega) (by omega), p_u_nk (by omega), p_u_nk (by omega), p_u_nk (by omega)]
theorem m_signalOf (hG : GW N P) (hwf : q_wf4 (I 68)) (hwf2 : q_wf2 (I 68)) {zs zx zy : Nat} (hs : zs < 6) (hx : zx ≤ 20) (hy : zy ≤ 20) (hf1 : rg (I 68 (120 + 8 * zs + 0)) 20) (hf2 : rg (I 68 (120 + 8 * zs + 1)) 20) (hm : I 77 (441 * zs + 21 * zy + zx) = -1 ∨ I 77 (441 * zs + 21 * zy + zx) = q_sig (I 68) (I 68 (120 + 8 * zs + 0)) (I 68 (120 + 8 * zs + 1)) (I 68 (120 + 8 * zs + 3)) (nI zx) (nI zy)) {zn : Nat} (hn : 200 < zn) : ∃ J K, f_X12_signalOf zn N I L P 67 (nI zs) (nI zx) (nI zy) = some (q_sig (I 68) (I 68 (120 + 8 * zs + 0)) (I 68 (120 + 8 * zs + 1)) (I 68 (120 + 8 * zs + 3)) (nI zx) (nI zy), J, K) ∧ J 77 (441 * zs + 21 * zy + zx) = q_sig (I 68) (I 68 (120 + 8 * zs + 0)) (I 68 (120 + 8 * zs + 1)) (I 68 (120 + 8 * zs + 3)) (nI zx) (nI zy) ∧ (∀ zk, zk ≠ 441 * zs + 21 * zy + zx → J 77 zk = I 77 zk) ∧ (∀ zq, zq ≠ 67 → zq ≠ 77 → zq < 70 ∨ 75 < zq → J zq = I zq) ∧ (∀ zj, zj ≠ 6 → zj ≠ 13 → zj < 14 ∨ 18 < zj → J 67 zj = I 67 zj) ∧ ∀ zq, zq ≠ 67 → K zq = L zq := by
  have e1 : nI 441 * nI zs + nI 21 * nI zy + nI zx = nI (441 * zs + 21 * zy + zx) := by rw [pk_mul, pk_mul, nI_add, nI_add]
  have hlt : 441 * zs + 21 * zy + zx < 2646 := by omega
  have hib : p_ib N 77 (nI (441 * zs + 21 * zy + zx)) = true := n_ib (gn_77 hG) hlt (by decide)
  have g20 : P 67 20 = some 77 := gp_67_20 hG
  unfold f_X12_signalOf
  rw [n_let, e1, g20, Option.bind_some, n_ck hib, nI_clamp (by omega)]
  generalize 441 * zs + 21 * zy + zx = zt at hm hlt hib
  by_cases hneg : I 77 zt < 0
  · rw [if_pos hneg, m_senderOf hG hs (by decide), Option.bind_some, m_senderOf hG hs (by decide), Option.bind_some, m_senderOf hG hs (by decide), Option.bind_some]
    obtain ⟨J0, J, K, k1, k2, k3, k4, k5, k6, k7⟩ := m_find (I := I) (L := L) (pw := I 68 (120 + 8 * zs + 3)) hG hwf hwf2 hf1 hf2 (rg.of hx (by decide)) (rg.of hy (by decide)) hn
    rw [k1, Option.bind_some, k2, Option.bind_some]
    dsimp only
    rw [Option.bind_some, k3, Option.bind_some, n_ck hib, n_let, Option.bind_some, n_ck hib, p_u_self]
    refine ⟨_, K, rfl, p_u_self, fun zk hk => ?_, fun zq a b c => ?_, fun zj a b c => ?_, k6⟩
    · rw [p_u_nk hk, k5.1 77 (by decide) (by decide)]
    · rw [p_u_ne b, k5.1 zq a c]
    · rw [p_u_ne (by decide), k5.2 zj a b c]
  · rw [if_neg hneg, Option.bind_some, n_ck hib]
    have hv := hm.resolve_left (fun h => hneg (by rw [h]; decide))
    refine ⟨I, L, by rw [hv], hv, fun _ _ => rfl, fun _ _ _ _ => rfl, fun _ _ _ _ => rfl, fun _ _ => rfl⟩
end Model10
