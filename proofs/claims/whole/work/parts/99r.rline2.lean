/-! the class reads a town's line, to its end -/
section RLine2
variable {B : Nat → Nat} {s i w : Nat} {N : pN} {P : pR} {K : pI} {A : Nat → Int32} {zn : Nat}
theorem q_ct.to {J : pI} {a : Nat} (h : q_ct K B s a i) (e : ∀ k, k = 1 ∨ k = 2 ∨ k = 3 → J a k = K a k) : q_ct J B s a i := ⟨by rw [e 1 (by omega)]; exact h.1, by rw [e 2 (by omega)]; exact h.2.1, by rw [e 3 (by omega)]; exact h.2.2⟩
theorem c_readLine (hG : GW N P) (hX : q_TX N P K B s 56) (hi : i ≤ s) (hct : q_ct K B s 56 i) (hS : K 56 4 = nI 0 → SR N P (q_r68 K A) 1 0) (hn : 600 < zn) : ∃ t, f_X10_readLine zn N K P 55 1 = some t ∧ q_tcl N P K t B s A i := by
  have hso := c_sortHere hG hX hi hct hn
  have hfrom : f_X9_from K 56 = some (nI (q_tp B s i)) := by
    unfold f_X9_from
    rw [hct.2.1]
  by_cases hw : 1 ≤ q_wo B s i ∧ q_wo B s i ≤ 4
  · rw [if_pos hw] at hso
    obtain ⟨K1, k1, k2, k3, k4⟩ := c_pass_t hX hi hct hn
    have hnn := q_nn_b (q_wo B s i)
    have hloop := p_loopI (B := B_X10_readLine_37 zn N P (nI (q_tp B s i)) (nI (q_wo B s i - 1)) 55 1) (zJ := fun c (zc : Int32 × pI) => zc.1 = nI c ∧ (∀ d, d ≤ c → q_gd B s i d = true) ∧ q_tfr K zc.2 ∧ (∀ k, k ≠ 1 → k ≠ 2 → k ≠ 3 → zc.2 56 k = K 56 k) ∧ q_ct zc.2 B s 56 (q_ad B s (c + 1) i) ∧ q_cn zc.2 B s i c) (zE := fun (t : pI) => q_tcl N P K t B s A i) (zm := q_nn (q_wo B s i)) (zn := zn) (by omega) ?_ ?_ (nI 0, K1) ⟨rfl, fun d hd => by rw [show d = 0 by omega]; exact q_gd_0.mpr hw, fun x x1 _ _ => k2 x x1, k3, k4, fun d hd => absurd hd (by omega)⟩
    · obtain ⟨t, t1, t2⟩ := hloop
      refine ⟨t, ?_, t2⟩
      unfold f_X10_readLine
      simp only [hso, Option.bind_some, gp_55_0 hG, hfrom, if_neg (n_neg1 (show q_wo B s i - 1 < 2 ^ 31 by omega)), n_let]
      rw [show nI 1 = bI true from rfl, k1, Option.bind_some]
      dsimp only
      rw [bI_ift]
      exact t1
    · rintro c hc ⟨zi, J⟩ ⟨m1, m2, m3, m4, m5, m6⟩
      dsimp only at m1 m2 m3 m4 m5 m6
      subst m1
      have hj := (q_ad_b (B := B) hi (c + 1)).2
      have hXJ : q_TX N P J B s 56 := hX.to (m3 2 (by decide) (by decide) (by decide)) (m3 3 (by decide) (by decide) (by decide))
      obtain ⟨x, x1, x2⟩ := c_number hXJ hj m5 hn
      have a1 : ¬ nI (q_nn (q_wo B s i)) ≤ nI c := nI_ge hc (by omega)
      have a2 : ¬ nI 5 ≤ nI c := nI_ge (by omega) (by omega)
      have i59 : p_ib N 59 (nI c) = true := n_ib (gn_59 hG) (by omega) (by decide)
      have i60 : p_ib N 60 (nI c) = true := n_ib (gn_60 hG) (by omega) (by decide)
      have kc : (nI c).toNatClampNeg = c := nI_clamp (by omega)
      have hfr : f_X9_from (p_u J 59 c x) 56 = some (nI (q_tp B s (q_ad B s (c + 1) i))) := by
        unfold f_X9_from
        rw [p_u_ne (by decide), m5.2.1]
      generalize hz : p_u (p_u J 59 c x) 60 c (nI (q_tp B s (q_ad B s (c + 1) i))) = J2
      have z1 : ∀ x, x ≠ 59 → x ≠ 60 → J2 x = J x := fun x y1 y2 => by rw [← hz, p_u_ne y2, p_u_ne y1]
      have z2 : J2 59 c = x := by rw [← hz, p_u_ne (by decide), p_u_self]
      have z3 : J2 60 c = nI (q_pc B s i c) := by rw [← hz, p_u_self]; rfl
      have z4 : ∀ d, d ≠ c → J2 59 d = J 59 d ∧ J2 60 d = J 60 d := fun d hd => by rw [← hz, p_u_ne (by decide), p_u_nk hd, p_u_nk hd, p_u_ne (by decide)]; exact ⟨rfl, rfl⟩
      have hX2 : q_TX N P J2 B s 56 := hXJ.to (z1 2 (by decide) (by decide)) (z1 3 (by decide) (by decide))
      have hc2 : q_ct J2 B s 56 (q_ad B s (c + 1) i) := m5.to (fun k _ => by rw [z1 56 (by decide) (by decide)])
      have hnu := c_isNumber hX2 hj hc2
      cases hq : q_isn B s (q_ad B s (c + 1) i) with
      | true =>
        left
        rw [hq] at hnu
        obtain ⟨J3, p1, p2, p3, p4⟩ := c_pass_t hX2 hj hc2 hn
        have hv := q_isn_v hj hq
        refine ⟨(nI (c + 1), J3), ⟨rfl, fun d hd => ?_, fun y y1 y2 y3 => by dsimp only; rw [p2 y y1, z1 y y2 y3]; exact m3 y y1 y2 y3, fun k y1 y2 y3 => by dsimp only; rw [p3 k y1 y2 y3, z1 56 (by decide) (by decide)]; exact m4 k y1 y2 y3, p4, fun d hd => ?_⟩, fun zrec => ?_⟩
        · by_cases e : d = c + 1
          · rw [e, q_gd_n hc]; exact hq
          · exact m2 d (by omega)
        · dsimp only
          rw [p2 59 (by decide), p2 60 (by decide)]
          by_cases e : d = c
          · subst e
            exact ⟨by rw [z2, x2 hq]; rfl, z3, hv.1⟩
          · rw [(z4 d e).1, (z4 d e).2]; exact m6 d (by omega)
        · unfold B_X10_readLine_37
          simp only [c_numbersOf hw.1 hw.2, Option.bind_some, if_neg a1, if_neg a2, gp_55_0 hG, gp_55_1 hG, gp_55_2 hG, x1, n_ck i59, kc, n_let, hfr, n_ck i60, hz, hnu, p1, bI_ift, nI_add]
      | false =>
        right
        rw [hq] at hnu
        have hp := c_pass_f (N := N) (P := P) (zn := zn) hc2
        refine ⟨p_u (p_u J2 56 4 (nI 1)) 56 5 (nI (q_tp B s (q_ad B s (c + 1) i))), Or.inl ⟨c + 1, ⟨by omega, fun d hd => m2 d (by omega), by rw [q_gd_n hc]; exact hq⟩, by rw [p_u_nk (by decide), p_u_self], p_u_self, fun y y1 y2 y3 => by rw [p_u_ne y1, p_u_ne y1, z1 y y2 y3]; exact m3 y y1 y2 y3⟩, fun zrec => ?_⟩
        unfold B_X10_readLine_37
        simp only [c_numbersOf hw.1 hw.2, Option.bind_some, if_neg a1, if_neg a2, gp_55_0 hG, gp_55_1 hG, gp_55_2 hG, x1, n_ck i59, kc, n_let, hfr, n_ck i60, hz, hnu, hp, bI_iff]
    · rintro ⟨zi, J⟩ ⟨m1, m2, m3, m4, m5, m6⟩
      dsimp only at m1 m2 m3 m4 m5 m6
      subst m1
      have hj := (q_ad_b (B := B) hi (q_nn (q_wo B s i) + 1)).2
      have hXJ : q_TX N P J B s 56 := hX.to (m3 2 (by decide) (by decide) (by decide)) (m3 3 (by decide) (by decide) (by decide))
      obtain ⟨x, x1, x2⟩ := c_sign hXJ hj m5
      have x59 := x2 59 (by decide) (by decide)
      have hJ104 : ∀ zrec, B_X10_readLine_37 zn N P (nI (q_tp B s i)) (nI (q_wo B s i - 1)) 55 1 zrec (nI (q_nn (q_wo B s i)), J) = J_X10_readLine_104 zn N J P (nI (q_tp B s i)) (nI (q_wo B s i - 1)) 55 1 := fun zrec => by
        unfold B_X10_readLine_37
        simp only [c_numbersOf hw.1 hw.2, Option.bind_some, if_pos (nI_le (Nat.le_refl (q_nn (q_wo B s i))) (show q_nn (q_wo B s i) < 2 ^ 31 by omega))]
      by_cases hsn : q_sn B s (q_ad B s (q_nn (q_wo B s i) + 1) i) = 59
      · have hgl : q_gl B s i := fun d hd => by
          by_cases e : d = q_nn (q_wo B s i) + 1
          · rw [e, q_gd_e, decide_eq_true hsn]
          · exact m2 d (by omega)
        obtain ⟨J3, p1, p2, p3, p4⟩ := c_pass_t hXJ hj m5 hn
        have hfr3 : q_tfr K J3 := fun y y1 y2 y3 => by rw [p2 y y1]; exact m3 y y1 y2 y3
        have h34 : J3 56 4 = K 56 4 := by rw [p3 4 (by decide) (by decide) (by decide), m4 4 (by decide) (by decide) (by decide)]
        have h35 : J3 56 5 = K 56 5 := by rw [p3 5 (by decide) (by decide) (by decide), m4 5 (by decide) (by decide) (by decide)]
        have hcond : x = nI 59 := x59.mpr hsn
        by_cases hz : K 56 4 = nI 0
        · have hz3 : J3 56 4 = nI 0 := h34.trans hz
          have hS3 : SR N P (q_r68 J3 A) 1 0 := (hS hz).of (fun zq y1 y2 => by rw [q_r68_n (by omega), q_r68_n (by omega), hfr3 zq (by omega) (by omega) (by omega)]) (fun zk _ => by rw [q_r68_s, q_r68_s])
          have hcn3 : q_cn J3 B s i (q_nn (q_wo B s i)) := fun d hd => by rw [p2 59 (by decide), p2 60 (by decide)]; exact m6 d hd
          obtain ⟨t, t1, t2⟩ := c_take (A := A) hG hS3 hcn3 hw.1 hw.2 hz3 hn
          have hcl : f_X9_isClean J3 56 = some (nI 1) := by
            unfold f_X9_isClean
            rw [if_pos (show J3 56 4 = 0 from hz3)]
          refine ⟨t, ?_, fun zrec => ?_⟩
          · right
            by_cases hl : (q_lf B s A i).1 = nI 0
            · rw [if_pos hl] at t2
              have h56 : t 56 = J3 56 := t2.2.1 56 (by unfold q_ta; split; decide; split; decide; split <;> decide) (by unfold q_ta; split; decide; split; decide; split <;> decide)
              exact ⟨hgl, p4.to (fun k _ => by rw [h56]), Or.inl ⟨hz, hl, by rw [h56]; exact hz3, by rw [h56]; exact h35, J3, hfr3, t2⟩⟩
            · rw [if_neg hl] at t2
              subst t2
              exact ⟨hgl, p4.to (fun k hk => by rw [p_u_nk (by omega), p_u_nk (by omega)]), Or.inr (Or.inl ⟨hz, hl, by rw [p_u_nk (by decide), p_u_self], p_u_self, fun y y1 y2 y3 => by rw [p_u_ne y1, p_u_ne y1]; exact hfr3 y y1 y2 y3⟩)⟩
          · rw [hJ104 zrec]
            unfold J_X10_readLine_104
            simp only [gp_55_0 hG, Option.bind_some, x1, if_pos hcond, n_let]
            rw [show nI 1 = bI true from rfl, p1, Option.bind_some]
            dsimp only
            rw [bI_ift, hcl, Option.bind_some, if_neg (show ¬ nI 1 = 0 by decide), t1, Option.bind_some]
        · have hcl : f_X9_isClean J3 56 = some (nI 0) := by
            unfold f_X9_isClean
            rw [if_neg (show ¬ J3 56 4 = 0 from fun e => hz (h34.symm.trans e))]
          refine ⟨J3, Or.inr ⟨hgl, p4, Or.inr (Or.inr ⟨hz, h34, h35, hfr3⟩)⟩, fun zrec => ?_⟩
          rw [hJ104 zrec]
          unfold J_X10_readLine_104
          simp only [gp_55_0 hG, Option.bind_some, x1, if_pos hcond, n_let]
          rw [show nI 1 = bI true from rfl, p1, Option.bind_some]
          dsimp only
          rw [bI_ift, hcl, Option.bind_some, if_pos (show nI 0 = 0 from rfl)]
      · have hcond : ¬ x = nI 59 := fun e => hsn (x59.mp e)
        have hp := c_pass_f (N := N) (P := P) (zn := zn) m5
        refine ⟨p_u (p_u J 56 4 (nI 1)) 56 5 (nI (q_tp B s (q_ad B s (q_nn (q_wo B s i) + 1) i))), Or.inl ⟨q_nn (q_wo B s i) + 1, ⟨by omega, fun d hd => m2 d (by omega), by rw [q_gd_e, decide_eq_false hsn]⟩, by rw [p_u_nk (by decide), p_u_self], p_u_self, fun y y1 y2 y3 => by rw [p_u_ne y1, p_u_ne y1]; exact m3 y y1 y2 y3⟩, fun zrec => ?_⟩
        rw [hJ104 zrec]
        unfold J_X10_readLine_104
        simp only [gp_55_0 hG, Option.bind_some, x1, if_neg hcond, n_let]
        rw [show nI 0 = bI false from rfl, hp, Option.bind_some]
        dsimp only
        rw [bI_iff]
  · rw [if_neg hw] at hso
    have hp := c_pass_f (N := N) (P := P) (zn := zn) hct
    refine ⟨p_u (p_u K 56 4 (nI 1)) 56 5 (nI (q_tp B s i)), ?_, Or.inl ⟨0, ⟨by omega, fun d hd => absurd hd (by omega), ?_⟩, by rw [p_u_nk (by decide), p_u_self], p_u_self, fun y y1 y2 y3 => by rw [p_u_ne y1, p_u_ne y1]⟩⟩
    · unfold f_X10_readLine
      simp only [hso, Option.bind_some, gp_55_0 hG, hfrom, if_true, n_let]
      rw [show nI 0 = bI false from rfl, hp, Option.bind_some]
      dsimp only
      rw [bI_iff]
    · cases hq : q_gd B s i 0 with
      | false => rfl
      | true => exact absurd (q_gd_0.mp hq) hw
end RLine2
