/-! the reference reads a town's line -/
section MLine
variable {N : pN} {P : pR} {J : pI} {B : Nat → Nat} {s i zn l : Nat} {A : Nat → Int32}
def q_mgood (J M : pI) (B : Nat → Nat) (s i l : Nat) (A : Nat → Int32) : Prop := q_gl B s i ∧ q_mt M B s (q_ad B s (q_nn (q_wo B s i) + 2) i) ∧ M 67 35 = nI 0 ∧ M 68 9 = (if J 68 9 = nI 0 then (q_lf B s A i).1 else J 68 9) ∧ M 68 10 = (if J 68 9 = nI 0 then (q_lf B s A i).2 else J 68 10) ∧ M 67 38 = nI (l + 1) ∧ (∀ j, j < 6 * l → M 82 j = J 82 j) ∧ M 82 (6 * l) = nI (q_wo B s i) ∧ (∀ c, c < q_nn (q_wo B s i) → M 82 (6 * l + 1 + c) = nI (q_v B s i c)) ∧ M 83 (q_wo B s i) = J 83 (q_wo B s i) + nI 1 ∧ ∀ k, k ≠ q_wo B s i → M 83 k = J 83 k
theorem q_mf.tr {J M M2 : pI} (h1 : q_mf J M) (h2 : q_mf M M2) : q_mf J M2 := ⟨fun x x1 x2 x3 x4 => by rw [h2.1 x x1 x2 x3 x4, h1.1 x x1 x2 x3 x4], fun k x1 x2 => by rw [h2.2.1 k x1 x2, h1.2.1 k x1 x2], by rw [h2.2.2, h1.2.2]⟩
theorem m_isIn4 {w : Nat} (hw : w < 1000) : f_X12_isIn (nI w) (nI 1) (nI 4) = some (bI (decide (1 ≤ w ∧ w ≤ 4))) := by
  rw [m_isIn]
  by_cases h1 : 1 ≤ w
  · rw [decide_eq_false (nI_nlt h1 (by omega))]
    by_cases h4 : w ≤ 4
    · rw [decide_eq_false (nI_nlt h4 (by omega)), decide_eq_true (show 1 ≤ w ∧ w ≤ 4 from ⟨h1, h4⟩)]; rfl
    · rw [decide_eq_true (nI_lt (show 4 < w by omega) (by omega)), decide_eq_false (show ¬ (1 ≤ w ∧ w ≤ 4) by omega)]; rfl
  · rw [decide_eq_true (nI_lt (show w < 1 by omega) (by omega)), decide_eq_false (show ¬ (1 ≤ w ∧ w ≤ 4) by omega)]; rfl
theorem q_wo_lt : q_wo B s i < 100 := by
  unfold q_wo
  split
  · exact q_wd_lt _
  · omega
/-- the reference's town faults, of a line that is well formed -/
theorem q_alo_l (hi : i ≤ s) (hs : s ≤ 500) (hg : q_gl B s i) : q_alo (q_nf B s i (q_wo B s i) (q_nn (q_wo B s i))).1 (q_nf B s i (q_wo B s i) (q_nn (q_wo B s i))).2 (nI 3) (nI (q_tp B s i)) = (nI 3, nI (q_tp B s i)) ∧ q_alo (q_nf B s i (q_wo B s i) (q_nn (q_wo B s i))).1 (q_nf B s i (q_wo B s i) (q_nn (q_wo B s i))).2 (nI 4) (nI (q_tp B s i)) = (nI 4, nI (q_tp B s i)) ∧ q_alo (nI 3) (nI (q_tp B s i)) (nI 4) (nI (q_tp B s i)) = (nI 3, nI (q_tp B s i)) := by
  have hk := q_gl_k hg
  have b1 := q_te_b (B := B) hi
  have hthird : q_alo (nI 3) (nI (q_tp B s i)) (nI 4) (nI (q_tp B s i)) = (nI 3, nI (q_tp B s i)) := by
    unfold q_alo
    rw [if_neg (show ¬ nI 3 = 0 by decide), if_neg (nI_nlt (Nat.le_refl _) (by omega)), if_pos rfl, if_neg (show ¬ nI 4 < nI 3 by decide)]
  rcases q_nf_2 (B := B) (s := s) (i := i) (w := q_wo B s i) (q_nn (q_wo B s i)) with g | ⟨d, g1, g2⟩
  · refine ⟨?_, ?_, hthird⟩
    · unfold q_alo
      rw [if_pos (show (q_nf B s i (q_wo B s i) (q_nn (q_wo B s i))).1 = 0 from g)]
    · unfold q_alo
      rw [if_pos (show (q_nf B s i (q_wo B s i) (q_nn (q_wo B s i))).1 = 0 from g)]
  · have b2 : q_ad B s (0 + 1) i ≤ q_ad B s (d + 1) i := q_ad_le hi (by omega)
    have e : q_ad B s (0 + 1) i = q_te B s i := rfl
    have b3 := q_tp_b (B := B) (q_ad_b (B := B) hi (d + 1)).2
    have hlt : q_tp B s i < q_pc B s i d := by
      unfold q_pc
      have := b1.2.2 hk
      omega
    have hps : q_pc B s i d ≤ s := b3.2
    rw [g2]
    refine ⟨?_, ?_, hthird⟩
    · unfold q_alo
      rw [if_neg (show ¬ nI 2 = 0 by decide), if_neg (nI_nlt (by omega) (by omega)), if_neg (fun h => by have := (nI_eq (by omega) (by omega)).mp h; omega)]
    · unfold q_alo
      rw [if_neg (show ¬ nI 2 = 0 by decide), if_neg (nI_nlt (by omega) (by omega)), if_neg (fun h => by have := (nI_eq (by omega) (by omega)).mp h; omega)]
theorem m_tline (hX : q_MX N P J B s) (hi : i ≤ s) (hmt : q_mt J B s i) (h35 : J 67 35 = nI 0) (h38 : J 67 38 = nI l) (hl : l ≤ 63) (hQ : J 68 9 ≠ nI 0 → ∃ q, q < i ∧ J 68 10 = nI q) (hF : J 68 9 = nI 0 → J 68 10 = -1) (hA : J 68 9 = nI 0 → 1 ≤ q_wo B s i → q_wo B s i ≤ 4 → rg (A (q_tix (q_wo B s i))) 12 ∧ J 83 (q_wo B s i) = A (q_tix (q_wo B s i))) (hn : 600 < zn) : ∃ M, f_X12_aTownLine zn N J P 67 = some M ∧ q_mf J M ∧ (q_mgood J M B s i l A ∨ q_mfail M B s i) := by
  have hG := hX.1
  have hs := hX.2.2.1
  have h35z : J 67 35 = 0 := h35
  have htt := q_tt_b (B := B) (s := s) (i := i)
  have hstop : ¬ (1 ≤ q_wo B s i ∧ q_wo B s i ≤ 4) → ∃ M, f_X12_stops N J P 67 = some M ∧ q_mf J M ∧ q_mfail M B s i := fun hw => by
    refine ⟨_, m_stops hG h35, ⟨fun x x1 x2 _ _ => by rw [p_u_ne x2, p_u_ne x2, p_u_ne x1], fun k x1 x2 => by rw [p_u_nk x2, p_u_nk x1, p_u_ne (by decide)], by rw [p_u_ne (by decide), p_u_ne (by decide), p_u_nk (by decide)]⟩, 0, ⟨by omega, fun d hd => absurd hd (by omega), ?_⟩, by rw [p_u_ne (by decide), p_u_ne (by decide), p_u_self], by rw [p_u_nk (by decide), p_u_self], by rw [p_u_self, hmt.2.1]; rfl⟩
    cases hq : q_gd B s i 0 with
    | false => rfl
    | true => exact absurd (q_gd_0.mp hq) hw
  by_cases hw : 1 ≤ q_wo B s i ∧ q_wo B s i ≤ 4
  · have hk1 := q_wo_1 (B := B) (s := s) (i := i) (by omega)
    have h31 : J 67 31 = nI 3 := by rw [hmt.2.2.1, (q_tt_3 hi).mpr ⟨hk1, by omega⟩]
    have h34 : J 67 34 = nI (q_wo B s i) := hmt.2.2.2.2.2 hk1
    have hin := m_isIn4 (w := q_wo B s i) (by omega)
    rw [decide_eq_true hw] at hin
    have hnn := q_nn_b (q_wo B s i)
    have hte := q_te_b (B := B) hi
    have htp := q_tp_b (B := B) hi
    obtain ⟨J1, a1, a2, a3, a4⟩ := m_adv hX hte.2.1 hmt.1 hn
    generalize hz : p_u J1 82 (6 * l) (nI (q_wo B s i)) = J2
    have z1 : ∀ x, x ≠ 82 → J2 x = J1 x := fun x hx => by rw [← hz, p_u_ne hx]
    have z2 : J2 82 (6 * l) = nI (q_wo B s i) := by rw [← hz, p_u_self]
    have z3 : ∀ j, j ≠ 6 * l → J2 82 j = J 82 j := fun j hj => by rw [← hz, p_u_nk hj, a2 82 (by decide)]
    have z68 : J2 68 = J 68 := by rw [z1 68 (by decide), a2 68 (by decide)]
    have z67 : ∀ k, k < 29 ∨ 34 < k → J2 67 k = J 67 k := fun k hk => by rw [z1 67 (by decide), a3 k hk]
    have hf2 : q_mf J J2 := ⟨fun x x1 x2 x3 x4 => by rw [z1 x x3, a2 x x1], fun k _ _ => by rw [z68], z67 28 (by decide)⟩
    have hX2 : q_MX N P J2 B s := hX.to (z67 28 (by decide)) (fun j _ _ => by rw [z68])
    have hn0 : q_mnorm (J 68 9) (J 68 10) J2 B s i l 0 := by
      refine ⟨fun d hd => by rw [show d = 0 by omega]; exact q_gd_0.mpr hw, ?_, by rw [z67 35 (by decide)]; exact h35, ?_, ?_, fun d hd => absurd hd (by omega)⟩
      · unfold q_mt
        rw [z1 67 (by decide)]
        exact a4
      · rw [z68]
        unfold q_mg
        by_cases e : J 68 9 = nI 0
        · rw [if_pos e]; exact e
        · rw [if_neg e]
      · rw [z68]
        unfold q_mg
        by_cases e : J 68 9 = nI 0
        · rw [if_pos e]; exact hF e
        · rw [if_neg e]
    obtain ⟨M1, b1, b2, b3, b4, b5, b6⟩ := m_nums hX2 hi hw hl hn0 hQ hn
    have hX1 : q_MX N P M1 B s := hX2.to b2.2.2 (fun j x1 x2 => b2.2.1 j (by omega) (by omega))
    -- what the closing sign does
    have hmust : ∃ M2, f_X12_must zn N M1 P 67 (nI 59) = some M2 ∧ q_mf M1 M2 ∧ M2 67 38 = M1 67 38 ∧ M2 83 = M1 83 ∧ M2 82 = M1 82 ∧ ((q_gl B s i ∧ q_mt M2 B s (q_ad B s (q_nn (q_wo B s i) + 2) i) ∧ M2 67 35 = nI 0 ∧ M2 68 9 = (q_mg (J 68 9) (J 68 10) B s i (q_wo B s i) (q_nn (q_wo B s i))).1 ∧ M2 68 10 = (q_mg (J 68 9) (J 68 10) B s i (q_wo B s i) (q_nn (q_wo B s i))).2 ∧ ∀ d, d < q_nn (q_wo B s i) → M2 82 (6 * l + 1 + d) = nI (q_v B s i d)) ∨ q_mfail M2 B s i) := by
      rcases b6 with ⟨n1, n2, n3, n4, n5, n6⟩ | hfail
      · have hj := (q_ad_b (B := B) hi (q_nn (q_wo B s i) + 1)).2
        have n3z : M1 67 35 = 0 := n3
        have htt2 := q_tt_b (B := B) (s := s) (i := q_ad B s (q_nn (q_wo B s i) + 1) i)
        by_cases hsn : q_sn B s (q_ad B s (q_nn (q_wo B s i) + 1) i) = 59
        · have hk3 := q_sn_3 hsn
          have e31 : M1 67 31 = nI 2 := by rw [n2.2.2.1, (q_tt_2 hj).mpr hk3]
          have e33 : M1 67 33 = nI 59 := by
            rw [n2.2.2.2.2.1 hk3]
            unfold q_sn at hsn
            rw [if_pos hk3] at hsn
            rw [hsn]
          obtain ⟨M2, c1, c2, c3, c4⟩ := m_adv hX1 (q_te_b (B := B) hj).2.1 n2.1 hn
          refine ⟨M2, ?_, ⟨fun x x1 _ _ _ => c2 x x1, fun k _ _ => by rw [c2 68 (by decide)], c3 28 (by decide)⟩, c3 38 (by decide), c2 83 (by decide), c2 82 (by decide), Or.inl ⟨fun d hd => ?_, c4, by rw [c3 35 (by decide)]; exact n3, by rw [c2 68 (by decide)]; exact n4, by rw [c2 68 (by decide)]; exact n5, fun d hd => by rw [c2 82 (by decide)]; exact n6 d hd⟩⟩
          · unfold f_X12_must
            rw [if_pos n3z, if_pos e31, if_pos e33, c1, Option.bind_some]
          · by_cases e : d = q_nn (q_wo B s i) + 1
            · rw [e, q_gd_e, decide_eq_true hsn]
            · exact n1 d (by omega)
        · have hms : f_X12_must zn N M1 P 67 (nI 59) = some (p_u (p_u (p_u M1 67 35 (nI 1)) 68 9 (nI 1)) 68 10 (M1 67 30)) := by
            unfold f_X12_must
            rw [if_pos n3z]
            by_cases e31 : M1 67 31 = nI 2
            · have hk3 : q_tk B s (q_ad B s (q_nn (q_wo B s i) + 1) i) = 3 := by
                rw [n2.2.2.1] at e31
                exact (q_tt_2 hj).mp ((nI_eq (by omega) (by decide)).mp e31)
              have hlt := (q_tk_k hj (by rw [hk3]; decide)).1
              have hbb := (hX1.2.2.2 _ hlt).2
              have e33 : ¬ M1 67 33 = nI 59 := fun e => by
                rw [n2.2.2.2.2.1 hk3] at e
                have := (nI_eq (by omega) (by decide)).mp e
                apply hsn
                unfold q_sn
                rw [if_pos hk3]; exact this
              rw [if_pos e31, if_neg e33, m_stops hG n3, Option.bind_some]
            · rw [if_neg e31, m_stops hG n3, Option.bind_some]
          refine ⟨_, hms, ⟨fun x x1 x2 _ _ => by rw [p_u_ne x2, p_u_ne x2, p_u_ne x1], fun k x1 x2 => by rw [p_u_nk x2, p_u_nk x1, p_u_ne (by decide)], by rw [p_u_ne (by decide), p_u_ne (by decide), p_u_nk (by decide)]⟩, by rw [p_u_ne (by decide), p_u_ne (by decide), p_u_nk (by decide)], by rw [p_u_ne (by decide), p_u_ne (by decide), p_u_ne (by decide)], by rw [p_u_ne (by decide), p_u_ne (by decide), p_u_ne (by decide)], Or.inr ⟨q_nn (q_wo B s i) + 1, ⟨by omega, fun d hd => n1 d (by omega), by rw [q_gd_e, decide_eq_false hsn]⟩, by rw [p_u_ne (by decide), p_u_ne (by decide), p_u_self], by rw [p_u_nk (by decide), p_u_self], by rw [p_u_self, n2.2.1]⟩⟩
      · obtain ⟨d, d1, d2, d3, d4⟩ := hfail
        refine ⟨M1, ?_, ⟨fun _ _ _ _ _ => rfl, fun _ _ _ => rfl, rfl⟩, rfl, rfl, rfl, Or.inr ⟨d, d1, d2, d3, d4⟩⟩
        unfold f_X12_must
        rw [if_neg (show ¬ M1 67 35 = 0 by rw [d2]; decide), m_stops_n d2, Option.bind_some]
    obtain ⟨M2, c1, c2, c3, c4, c5, c6⟩ := hmust
    have hfM2 : q_mf J M2 := hf2.tr (b2.tr c2)
    have i0 : p_ib N 82 (nI (6 * l)) = true := n_ib (gn_82 hG) (by omega) (by decide)
    have i1 : p_ib N 82 (nI (6 * l + 1)) = true := n_ib (gn_82 hG) (by omega) (by decide)
    have i2 : p_ib N 82 (nI (6 * l + 2)) = true := n_ib (gn_82 hG) (by omega) (by decide)
    have i3 : p_ib N 82 (nI (6 * l + 3)) = true := n_ib (gn_82 hG) (by omega) (by decide)
    have i4 : p_ib N 82 (nI (6 * l + 4)) = true := n_ib (gn_82 hG) (by omega) (by decide)
    have iw : p_ib N 83 (nI (q_wo B s i)) = true := n_ib (gn_83 hG) (by omega) (by decide)
    have k0 : (nI (6 * l)).toNatClampNeg = 6 * l := nI_clamp (by omega)
    have k1 : (nI (6 * l + 1)).toNatClampNeg = 6 * l + 1 := nI_clamp (by omega)
    have k2 : (nI (6 * l + 2)).toNatClampNeg = 6 * l + 2 := nI_clamp (by omega)
    have k3 : (nI (6 * l + 3)).toNatClampNeg = 6 * l + 3 := nI_clamp (by omega)
    have k4 : (nI (6 * l + 4)).toNatClampNeg = 6 * l + 4 := nI_clamp (by omega)
    have kw : (nI (q_wo B s i)).toNatClampNeg = q_wo B s i := nI_clamp (by omega)
    have e30 : J 67 30 = nI (q_tp B s i) := hmt.2.1
    -- crooked, full
    have hT : ∃ M3 M4, (if nI (q_wo B s i) = nI 1 then (if (if M2 82 (6 * l + 1) = M2 82 (6 * l + 3) then nI 1 else nI 0) = (if M2 82 (6 * l + 2) = M2 82 (6 * l + 4) then nI 1 else nI 0) then Option.bind (f_X12_also N M2 P 67 (nI 3) (nI (q_tp B s i))) fun q82 => some q82 else some M2) else some M2) = some M3 ∧ (if p_u M3 83 (q_wo B s i) (M3 83 (q_wo B s i) + nI 1) 83 (q_wo B s i) ≤ nI (q_tmo (q_wo B s i)) then some (p_u M3 83 (q_wo B s i) (M3 83 (q_wo B s i) + nI 1)) else Option.bind (f_X12_also N (p_u M3 83 (q_wo B s i) (M3 83 (q_wo B s i) + nI 1)) P 67 (nI 4) (nI (q_tp B s i))) fun q99 => some q99) = some M4 ∧ (∀ x, x ≠ 68 → x ≠ 83 → M4 x = M2 x) ∧ (∀ k, k ≠ 9 → k ≠ 10 → M4 68 k = M2 68 k) ∧ M4 83 (q_wo B s i) = M2 83 (q_wo B s i) + nI 1 ∧ (∀ k, k ≠ q_wo B s i → M4 83 k = M2 83 k) ∧ ((q_mfail M2 B s i ∧ M4 68 = M2 68) ∨ (M2 67 35 = nI 0 ∧ q_gl B s i ∧ M4 68 9 = (if J 68 9 = nI 0 then (q_lf B s A i).1 else J 68 9) ∧ M4 68 10 = (if J 68 9 = nI 0 then (q_lf B s A i).2 else J 68 10))) := by
      rcases c6 with ⟨g1, g2, g3, g4, g5, g6⟩ | hfail
      · have hv : ∀ c, c < q_nn (q_wo B s i) → q_v B s i c ≤ 9999 := fun c hc => by
          have := g1 (c + 1) (by omega)
          rw [q_gd_n hc] at this
          exact (q_isn_v (q_ad_b (B := B) hi (c + 1)).2 this).1
        have e83 : M2 83 (q_wo B s i) = J 83 (q_wo B s i) := by rw [c4, b4, z1 83 (by decide), a2 83 (by decide)]
        obtain ⟨y1, y2, y3⟩ := q_alo_l hi hs g1
        -- the first
        have hfirst : ∃ M3, (if nI (q_wo B s i) = nI 1 then (if (if M2 82 (6 * l + 1) = M2 82 (6 * l + 3) then nI 1 else nI 0) = (if M2 82 (6 * l + 2) = M2 82 (6 * l + 4) then nI 1 else nI 0) then Option.bind (f_X12_also N M2 P 67 (nI 3) (nI (q_tp B s i))) fun q82 => some q82 else some M2) else some M2) = some M3 ∧ (∀ x, x ≠ 68 → M3 x = M2 x) ∧ (∀ k, k ≠ 9 → k ≠ 10 → M3 68 k = M2 68 k) ∧ (M3 68 9, M3 68 10) = (if J 68 9 = nI 0 then (if q_wo B s i = 1 ∧ q_crk B s i = true then (nI 3, nI (q_tp B s i)) else q_nf B s i (q_wo B s i) (q_nn (q_wo B s i))) else (J 68 9, J 68 10)) := by
          have hsame : ¬ (q_wo B s i = 1 ∧ q_crk B s i = true) → (M2 68 9, M2 68 10) = (if J 68 9 = nI 0 then (if q_wo B s i = 1 ∧ q_crk B s i = true then (nI 3, nI (q_tp B s i)) else q_nf B s i (q_wo B s i) (q_nn (q_wo B s i))) else (J 68 9, J 68 10)) := fun h => by
            rw [g4, g5, if_neg h]
            unfold q_mg
            split <;> rfl
          by_cases hw1 : q_wo B s i = 1
          · have hv1 : ∀ c, c < 5 → M2 82 (6 * l + 1 + c) = nI (q_v B s i c) ∧ q_v B s i c ≤ 9999 := fun c hc => by
              have hn5 : q_nn (q_wo B s i) = 5 := by rw [hw1]; rfl
              exact ⟨g6 c (by omega), hv c (by omega)⟩
            have w0 : M2 82 (6 * l + 1) = nI (q_v B s i 0) := (hv1 0 (by decide)).1
            have w1 : M2 82 (6 * l + 2) = nI (q_v B s i 1) := (hv1 1 (by decide)).1
            have w2 : M2 82 (6 * l + 3) = nI (q_v B s i 2) := (hv1 2 (by decide)).1
            have w3 : M2 82 (6 * l + 4) = nI (q_v B s i 3) := (hv1 3 (by decide)).1
            have eqd : ∀ a b, a ≤ 9999 → b ≤ 9999 → (if nI a = nI b then nI 1 else nI 0) = bI (decide (a = b)) := fun a b ha hb => by
              by_cases h : a = b
              · rw [if_pos (by rw [h]), decide_eq_true h]; rfl
              · rw [if_neg (fun h2 => h ((nI_eq (by omega) (by omega)).mp h2)), decide_eq_false h]; rfl
            have hb : bI (decide (q_v B s i 0 = q_v B s i 2)) = bI (decide (q_v B s i 1 = q_v B s i 3)) ↔ q_crk B s i = true := by
              unfold q_crk
              cases decide (q_v B s i 0 = q_v B s i 2) <;> cases decide (q_v B s i 1 = q_v B s i 3) <;> decide
            rw [if_pos (by rw [hw1]), w0, w1, w2, w3, eqd _ _ (hv1 0 (by decide)).2 (hv1 2 (by decide)).2, eqd _ _ (hv1 1 (by decide)).2 (hv1 3 (by decide)).2]
            by_cases hcr : q_crk B s i = true
            · rw [if_pos (hb.mpr hcr)]
              obtain ⟨M3, r1, r2, r3, r4, r5⟩ := m_also hG (x := nI 3) (y := nI (q_tp B s i)) g3
              refine ⟨M3, by rw [r1, Option.bind_some], r2, r3, ?_⟩
              rw [r4, r5, g4, g5, if_pos (show q_wo B s i = 1 ∧ q_crk B s i = true from ⟨hw1, hcr⟩)]
              unfold q_mg
              by_cases e : J 68 9 = nI 0
              · simp only [if_pos e]
                rw [y1]
              · simp only [if_neg e]
                obtain ⟨q, q1, q2⟩ := hQ e
                unfold q_alo
                rw [if_neg (show ¬ J 68 9 = 0 from e), q2, if_pos (nI_lt (by omega) (by omega))]
            · rw [if_neg (fun h => hcr (hb.mp h))]
              exact ⟨M2, rfl, fun _ _ => rfl, fun _ _ _ => rfl, hsame (fun h => hcr h.2)⟩
          · rw [if_neg (fun h => hw1 ((nI_eq (by omega) (by decide)).mp h))]
            exact ⟨M2, rfl, fun _ _ => rfl, fun _ _ _ => rfl, hsame (fun h => hw1 h.1)⟩
        obtain ⟨M3, f1, f2, f3, f4⟩ := hfirst
        have f9 := congrArg Prod.fst f4
        have f10 := congrArg Prod.snd f4
        dsimp only at f9 f10
        have e383 : M3 83 (q_wo B s i) = J 83 (q_wo B s i) := by rw [f2 83 (by decide)]; exact e83
        by_cases hfull : p_u M3 83 (q_wo B s i) (M3 83 (q_wo B s i) + nI 1) 83 (q_wo B s i) ≤ nI (q_tmo (q_wo B s i))
        · refine ⟨M3, p_u M3 83 (q_wo B s i) (M3 83 (q_wo B s i) + nI 1), f1, by rw [if_pos hfull], fun x x1 x2 => by rw [p_u_ne x2, f2 x x1], fun k x1 x2 => by rw [p_u_ne (by decide), f3 k x1 x2], by rw [p_u_self, f2 83 (by decide)], fun k hk => by rw [p_u_nk hk, f2 83 (by decide)], Or.inr ⟨g3, g1, ?_⟩⟩
          rw [p_u_ne (by decide), f9, f10]
          by_cases e : J 68 9 = nI 0
          · simp only [if_pos e]
            have hnf : ¬ q_tmo (q_wo B s i) ≤ nv (A (q_tix (q_wo B s i))) := by
              obtain ⟨h1, h2⟩ := hA e hw.1 hw.2
              rw [p_u_self, e383, h2, h1.1, nI_add] at hfull
              have h3 := h1.2
              have hmo : q_tmo (q_wo B s i) ≤ 12 := by
                unfold q_tmo
                split
                · omega
                · split <;> omega
              have := (nI_leI (by omega) (by omega)).mp hfull
              omega
            unfold q_lf
            by_cases hcr : q_wo B s i = 1 ∧ q_crk B s i = true
            · rw [if_pos hcr, if_pos hcr]; exact ⟨rfl, rfl⟩
            · rw [if_neg hcr, if_neg hcr, if_neg hnf]; exact ⟨rfl, rfl⟩
          · refine ⟨?_, ?_⟩ <;> rw [if_neg e, if_neg e]
        · have g35 : p_u M3 83 (q_wo B s i) (M3 83 (q_wo B s i) + nI 1) 67 35 = nI 0 := by rw [p_u_ne (by decide), f2 67 (by decide)]; exact g3
          obtain ⟨M4, r1, r2, r3, r4, r5⟩ := m_also hG (x := nI 4) (y := nI (q_tp B s i)) g35
          refine ⟨M3, M4, f1, by rw [if_neg hfull, r1, Option.bind_some], fun x x1 x2 => by rw [r2 x x1, p_u_ne x2, f2 x x1], fun k x1 x2 => by rw [r3 k x1 x2, p_u_ne (by decide), f3 k x1 x2], by rw [r2 83 (by decide), p_u_self, f2 83 (by decide)], fun k hk => by rw [r2 83 (by decide), p_u_nk hk, f2 83 (by decide)], Or.inr ⟨g3, g1, ?_⟩⟩
          rw [r4, r5, p_u_ne (show 68 ≠ 83 by decide), f9, f10]
          by_cases e : J 68 9 = nI 0
          · simp only [if_pos e]
            have hnf : q_tmo (q_wo B s i) ≤ nv (A (q_tix (q_wo B s i))) := by
              obtain ⟨h1, h2⟩ := hA e hw.1 hw.2
              rw [p_u_self, e383, h2, h1.1, nI_add] at hfull
              have h3 := h1.2
              by_cases hle : nv (A (q_tix (q_wo B s i))) + 1 ≤ q_tmo (q_wo B s i)
              · exact absurd (nI_le hle (by unfold q_tmo; split; omega; split <;> omega)) hfull
              · omega
            unfold q_lf
            by_cases hcr : q_wo B s i = 1 ∧ q_crk B s i = true
            · rw [if_pos hcr, if_pos hcr, y3]; exact ⟨rfl, rfl⟩
            · rw [if_neg hcr, if_neg hcr, if_pos hnf, y2]; exact ⟨rfl, rfl⟩
          · simp only [if_neg e]
            obtain ⟨q, q1, q2⟩ := hQ e
            unfold q_alo
            rw [if_neg (show ¬ J 68 9 = 0 from e), q2, if_pos (nI_lt (by omega) (by omega))]
            exact ⟨rfl, rfl⟩
      · obtain ⟨d, d1, d2, d3, d4⟩ := hfail
        refine ⟨M2, p_u M2 83 (q_wo B s i) (M2 83 (q_wo B s i) + nI 1), ?_, ?_, fun x x1 x2 => by rw [p_u_ne x2], fun k x1 x2 => by rw [p_u_ne (by decide)], p_u_self, fun k hk => by rw [p_u_nk hk], Or.inl ⟨⟨d, d1, d2, d3, d4⟩, by rw [p_u_ne (by decide)]⟩⟩
        · rw [m_also_n d2, Option.bind_some, ite_self, ite_self]
        · rw [m_also_n (by rw [p_u_ne (by decide)]; exact d2), Option.bind_some]
          split <;> rfl
    obtain ⟨M3, M4, t1, t2, t3, t4, t5, t6, t7⟩ := hT
    have e438 : M4 67 38 = nI l := by rw [t3 67 (by decide) (by decide), c3, b3, z67 38 (by decide)]; exact h38
    refine ⟨p_u M4 67 38 (nI (l + 1)), ?_, hfM2.tr ⟨fun x x1 x2 x3 x4 => by rw [p_u_ne x1, t3 x x2 x4], fun k x1 x2 => by rw [p_u_ne (by decide), t4 k x1 x2], by rw [p_u_nk (by decide), t3 67 (by decide) (by decide)]⟩, ?_⟩
    · unfold f_X12_aTownLine
      simp only [if_pos h35z, if_pos h31, h34, hin, Option.bind_some, bI_ift, a1, gp_67_36 hG, gp_67_37 hG, h38, pk_mul, nI_add, n_ck i0, n_ck i1, n_ck i2, n_ck i3, n_ck i4, n_ck iw, k0, k1, k2, k3, k4, kw, n_let, hz, b1, c1, e30, m_mostOf hw.1 hw.2]
      rw [t1, Option.bind_some, t2, Option.bind_some, e438, nI_add]
    · rcases t7 with ⟨⟨d, d1, d2, d3, d4⟩, u2⟩ | ⟨u1, u2, u3, u4⟩
      · right
        exact ⟨d, d1, by rw [p_u_nk (by decide), t3 67 (by decide) (by decide)]; exact d2, by rw [p_u_ne (by decide), u2]; exact d3, by rw [p_u_ne (by decide), u2]; exact d4⟩
      · left
        rcases c6 with ⟨g1, g2, g3, g4, g5, g6⟩ | ⟨d, d1, _⟩
        · refine ⟨u2, ?_, by rw [p_u_nk (by decide), t3 67 (by decide) (by decide)]; exact u1, by rw [p_u_ne (by decide)]; exact u3, by rw [p_u_ne (by decide)]; exact u4, p_u_self, fun j hj => by rw [p_u_ne (by decide), t3 82 (by decide) (by decide), c5, b5 j (by omega), z3 j (by omega)], by rw [p_u_ne (by decide), t3 82 (by decide) (by decide), c5, b5 _ (by omega), z2], fun c hc => by rw [p_u_ne (by decide), t3 82 (by decide) (by decide)]; exact g6 c hc, by rw [p_u_ne (by decide), t5, c4, b4, z1 83 (by decide), a2 83 (by decide)], fun k hk => by rw [p_u_ne (by decide), t6 k hk, c4, b4, z1 83 (by decide), a2 83 (by decide)]⟩
          obtain ⟨x1, x2, x3, x4, x5, x6⟩ := g2
          have h67 : ∀ k, k ≠ 38 → p_u M4 67 38 (nI (l + 1)) 67 k = M2 67 k := fun k hk => by rw [p_u_nk hk, t3 67 (by decide) (by decide)]
          exact ⟨by rw [h67 29 (by decide)]; exact x1, by rw [h67 30 (by decide)]; exact x2, by rw [h67 31 (by decide)]; exact x3, by rw [h67 32 (by decide)]; exact x4, by rw [h67 33 (by decide)]; exact x5, by rw [h67 34 (by decide)]; exact x6⟩
        · exact absurd u2 (q_fb_n d1)
  · obtain ⟨M, s1, s2, s3⟩ := hstop hw
    refine ⟨M, ?_, s2, Or.inr s3⟩
    unfold f_X12_aTownLine
    rw [if_pos h35z]
    by_cases h31 : J 67 31 = nI 3
    · have h3 : q_tt B s i = 3 := by
        rw [hmt.2.2.1] at h31
        exact (nI_eq (by omega) (by decide)).mp h31
      have hk1 := ((q_tt_3 hi).mp h3).1
      have h34 : J 67 34 = nI (q_wo B s i) := hmt.2.2.2.2.2 hk1
      have hin := m_isIn4 (w := q_wo B s i) (by have := q_wo_lt (B := B) (s := s) (i := i); omega)
      rw [decide_eq_false hw] at hin
      rw [if_pos h31, h34, hin, Option.bind_some, bI_iff, s1, Option.bind_some]
    · rw [if_neg h31, s1, Option.bind_some]
end MLine
