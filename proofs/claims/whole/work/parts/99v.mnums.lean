/-! the reference reads the numbers of a town's line -/
def q_mf (J M : pI) : Prop := (∀ x, x ≠ 67 → x ≠ 68 → x ≠ 82 → x ≠ 83 → M x = J x) ∧ (∀ k, k ≠ 9 → k ≠ 10 → M 68 k = J 68 k) ∧ M 67 28 = J 67 28
def q_mg (F0 Q0 : Int32) (B : Nat → Nat) (s i w c : Nat) : Int32 × Int32 := if F0 = nI 0 then q_nf B s i w c else (F0, Q0)
def q_mfail (M : pI) (B : Nat → Nat) (s i : Nat) : Prop := ∃ d, q_fb B s i d ∧ M 67 35 = nI 1 ∧ M 68 9 = nI 1 ∧ M 68 10 = nI (q_tp B s (q_ad B s d i))
def q_mnorm (F0 Q0 : Int32) (M : pI) (B : Nat → Nat) (s i l c : Nat) : Prop := (∀ d, d ≤ c → q_gd B s i d = true) ∧ q_mt M B s (q_ad B s (c + 1) i) ∧ M 67 35 = nI 0 ∧ M 68 9 = (q_mg F0 Q0 B s i (q_wo B s i) c).1 ∧ M 68 10 = (q_mg F0 Q0 B s i (q_wo B s i) c).2 ∧ ∀ d, d < c → M 82 (6 * l + 1 + d) = nI (q_v B s i d)
section MNums
variable {N : pN} {P : pR} {J J1 : pI} {B : Nat → Nat} {s i zn l : Nat} {F0 Q0 : Int32}
theorem q_tt_b : q_tt B s i ≤ 4 := by
  unfold q_tt
  split
  · omega
  · split
    · split <;> omega
    · split
      · split <;> omega
      · split <;> omega
theorem q_tt_1 (hi : i ≤ s) : q_tt B s i = 1 ↔ q_isn B s i = true := by
  have hk := q_tk_b (B := B) hi
  unfold q_tt q_isn
  rw [Bool.and_eq_true, decide_eq_true_iff, decide_eq_true_iff]
  split
  · omega
  · split
    · split <;> omega
    · split
      · split <;> omega
      · split <;> omega
theorem q_tt_2 (hi : i ≤ s) : q_tt B s i = 2 ↔ q_tk B s i = 3 := by
  have hk := q_tk_b (B := B) hi
  unfold q_tt
  split
  · omega
  · split
    · split <;> omega
    · split
      · split <;> omega
      · split <;> omega
theorem q_tt_3 (hi : i ≤ s) : q_tt B s i = 3 ↔ (q_tk B s i = 1 ∧ q_wo B s i ≠ 99) := by
  have hk := q_tk_b (B := B) hi
  unfold q_tt
  split
  · omega
  · split
    · split <;> omega
    · split
      · split <;> omega
      · split <;> omega
theorem q_nf_2 {w : Nat} (c : Nat) : (q_nf B s i w c).1 = nI 0 ∨ ∃ d, d < c ∧ q_nf B s i w c = (nI 2, nI (q_pc B s i d)) := by
  induction c with
  | zero => exact Or.inl rfl
  | succ c ih =>
    rw [q_nf_s]
    split
    · exact Or.inr ⟨c, by omega, rfl⟩
    · rcases ih with g | ⟨d, g1, g2⟩
      · exact Or.inl g
      · exact Or.inr ⟨d, by omega, g2⟩
theorem q_pc_lt (hi : i ≤ s) {c d : Nat} (h : d < c) (hd : q_isn B s (q_ad B s (d + 1) i) = true) : q_pc B s i d < q_pc B s i c := by
  have b0 := q_ad_b (B := B) hi (d + 1)
  have b1 := q_te_b (B := B) b0.2
  have h2 := (q_isn_2 hd).1
  have b2 : q_ad B s (d + 1 + 1) i ≤ q_ad B s (c + 1) i := q_ad_le hi (by omega)
  have e : q_ad B s (d + 1 + 1) i = q_te B s (q_ad B s (d + 1) i) := rfl
  have b3 := q_tp_b (B := B) (q_ad_b (B := B) hi (c + 1)).2
  unfold q_pc
  have := b1.2.2 (by omega)
  omega
theorem m_nums (hX : q_MX N P J1 B s) (hi : i ≤ s) (hw : 1 ≤ q_wo B s i ∧ q_wo B s i ≤ 4) (hl : l ≤ 63) (h0 : q_mnorm F0 Q0 J1 B s i l 0) (hQ : F0 ≠ nI 0 → ∃ q, q < i ∧ Q0 = nI q) (hn : 600 < zn) : ∃ M, p_it (B_X12_aTownLine_64 zn N P (nI (6 * l)) (nI (q_wo B s i)) 67) zn (nI 0, J1) = some M ∧ q_mf J1 M ∧ M 67 38 = J1 67 38 ∧ M 83 = J1 83 ∧ (∀ j, j < 6 * l + 1 → M 82 j = J1 82 j) ∧ (q_mnorm F0 Q0 M B s i l (q_nn (q_wo B s i)) ∨ q_mfail M B s i) := by
  have hG := hX.1
  have hs := hX.2.2.1
  have hnn := q_nn_b (q_wo B s i)
  refine p_loopI (B := B_X12_aTownLine_64 zn N P (nI (6 * l)) (nI (q_wo B s i)) 67) (zJ := fun c (zc : Int32 × pI) => zc.1 = nI c ∧ (q_mf J1 zc.2 ∧ zc.2 67 38 = J1 67 38 ∧ zc.2 83 = J1 83 ∧ (∀ j, j < 6 * l + 1 → zc.2 82 j = J1 82 j)) ∧ (q_mnorm F0 Q0 zc.2 B s i l c ∨ q_mfail zc.2 B s i)) (zE := fun (M : pI) => q_mf J1 M ∧ M 67 38 = J1 67 38 ∧ M 83 = J1 83 ∧ (∀ j, j < 6 * l + 1 → M 82 j = J1 82 j) ∧ (q_mnorm F0 Q0 M B s i l (q_nn (q_wo B s i)) ∨ q_mfail M B s i)) (zm := q_nn (q_wo B s i)) (zn := zn) (by omega) ?_ ?_ (nI 0, J1) ⟨rfl, ⟨⟨fun x _ _ _ _ => rfl, fun k _ _ => rfl, rfl⟩, rfl, rfl, fun j _ => rfl⟩, Or.inl h0⟩
  · rintro c hc ⟨zi, M⟩ ⟨m1, ⟨m2, m3, m4, m5⟩, m6⟩
    dsimp only at m1 m2 m3 m4 m5 m6
    subst m1
    have a1 : ¬ nI (q_nn (q_wo B s i)) ≤ nI c := nI_ge hc (by omega)
    rcases m6 with ⟨n1, n2, n3, n4, n5, n6⟩ | hfail
    · left
      have hj := (q_ad_b (B := B) hi (c + 1)).2
      have hjb := (q_ad_b (B := B) hi (c + 1)).1
      have hXM : q_MX N P M B s := hX.to m2.2.2 (fun j x1 x2 => m2.2.1 j (by omega) (by omega))
      have n3z : M 67 35 = 0 := n3
      have i82 : p_ib N 82 (nI (6 * l + 1 + c)) = true := n_ib (gn_82 hG) (by omega) (by decide)
      have k82 : (nI (6 * l + 1 + c)).toNatClampNeg = 6 * l + 1 + c := nI_clamp (by omega)
      have htt := q_tt_b (B := B) (s := s) (i := q_ad B s (c + 1) i)
      have htp := q_tp_b (B := B) hj
      cases hq : q_isn B s (q_ad B s (c + 1) i) with
      | true =>
        have hv := q_isn_v hj hq
        have h31 : M 67 31 = nI 1 := by rw [n2.2.2.1, (q_tt_1 hj).mpr hq]
        have h32 : M 67 32 = nI (q_v B s i c) := by rw [n2.2.2.2.1 (q_isn_2 hq).1, hv.2]; rfl
        obtain ⟨M2, p1, p2, p3, p4⟩ := m_adv hXM (q_te_b (B := B) hj).2.1 n2.1 hn
        have hnum : f_X12_numbered zn N M P 67 = some (nI (q_v B s i c), M2) := by
          unfold f_X12_numbered
          rw [if_pos n3z, if_pos h31, p1, Option.bind_some, h32]
        have hmay := m_mayBe hw.1 hw.2 hc (show q_v B s i c ≤ 9999 from hv.1)
        generalize hz : p_u M2 82 (6 * l + 1 + c) (nI (q_v B s i c)) = M3
        have z1 : ∀ x, x ≠ 82 → M3 x = M2 x := fun x hx => by rw [← hz, p_u_ne hx]
        have z2 : M3 82 (6 * l + 1 + c) = nI (q_v B s i c) := by rw [← hz, p_u_self]
        have z3 : ∀ j, j ≠ 6 * l + 1 + c → M3 82 j = M 82 j := fun j hj => by rw [← hz, p_u_nk hj, p2 82 (by decide)]
        have z68 : M3 68 = M 68 := by rw [z1 68 (by decide), p2 68 (by decide)]
        have z67 : ∀ k, k < 29 ∨ 34 < k → M3 67 k = M 67 k := fun k hk => by rw [z1 67 (by decide), p3 k hk]
        have hfr3 : q_mf J1 M3 := ⟨fun x x1 x2 x3 x4 => by rw [z1 x x3, p2 x x1]; exact m2.1 x x1 x2 x3 x4, fun k x1 x2 => by rw [z68]; exact m2.2.1 k x1 x2, by rw [z67 28 (by decide)]; exact m2.2.2⟩
        have hgd : ∀ d, d ≤ c + 1 → q_gd B s i d = true := fun d hd => by
          by_cases e : d = c + 1
          · rw [e, q_gd_n hc]; exact hq
          · exact n1 d (by omega)
        have htold : ∀ d, d < c + 1 → M3 82 (6 * l + 1 + d) = nI (q_v B s i d) := fun d hd => by
          by_cases e : d = c
          · rw [e]; exact z2
          · rw [z3 _ (by omega)]; exact n6 d (by omega)
        have hmt3 : q_mt M3 B s (q_ad B s (c + 1 + 1) i) := by
          have e67 : M3 67 = M2 67 := z1 67 (by decide)
          unfold q_mt
          rw [e67]
          exact p4
        cases hb : q_tmb (q_wo B s i) c (q_v B s i c) with
        | true =>
          rw [hb] at hmay
          have hmg : q_mg F0 Q0 B s i (q_wo B s i) (c + 1) = q_mg F0 Q0 B s i (q_wo B s i) c := by
            have hnfs : q_nf B s i (q_wo B s i) (c + 1) = q_nf B s i (q_wo B s i) c := by rw [q_nf_s, if_neg (fun g => by rw [hb] at g; cases g.2)]
            unfold q_mg
            rw [hnfs]
          refine ⟨(nI (c + 1), M3), ⟨rfl, ⟨hfr3, by (try dsimp only); rw [z67 38 (by decide)]; exact m3, by (try dsimp only); rw [z1 83 (by decide), p2 83 (by decide)]; exact m4, fun j hj => by (try dsimp only); rw [z3 j (by omega)]; exact m5 j hj⟩, Or.inl ⟨hgd, hmt3, by (try dsimp only); rw [z67 35 (by decide)]; exact n3, by (try dsimp only); rw [z68, hmg]; exact n4, by (try dsimp only); rw [z68, hmg]; exact n5, htold⟩⟩, fun zrec => ?_⟩
          unfold B_X12_aTownLine_64
          simp only [m_numbersOf hw.1 hw.2, Option.bind_some, if_neg a1, if_pos n3z, gp_67_36 hG, hnum, nI_add, n_ck i82, k82, n_let, hz, z2, hmay, bI_ift]
        | false =>
          rw [hb] at hmay
          have h35 : M3 67 35 = nI 0 := by rw [z67 35 (by decide)]; exact n3
          obtain ⟨M4, r1, r2, r3, r4, r5⟩ := m_also hG (x := nI 2) (y := nI (q_tp B s (q_ad B s (c + 1) i))) h35
          have hal : q_alo (M 68 9) (M 68 10) (nI 2) (nI (q_tp B s (q_ad B s (c + 1) i))) = q_mg F0 Q0 B s i (q_wo B s i) (c + 1) := by
            rw [n4, n5]
            unfold q_mg
            by_cases hF : F0 = nI 0
            · rw [if_pos hF, if_pos hF, q_nf_s]
              rcases q_nf_2 (B := B) (s := s) (i := i) (w := q_wo B s i) c with g | ⟨d, g1, g2⟩
              · rw [if_pos ⟨g, hb⟩]
                unfold q_alo
                rw [if_pos (show (q_nf B s i (q_wo B s i) c).1 = 0 from g)]
                rfl
              · have hpl := q_pc_lt hi g1 (by have := n1 (d + 1) (by omega); rw [q_gd_n (by omega)] at this; exact this)
                have hpc : q_pc B s i c = q_tp B s (q_ad B s (c + 1) i) := rfl
                rw [g2, if_neg (fun h => absurd h.1 (show ¬ nI 2 = nI 0 by decide))]
                unfold q_alo
                rw [if_neg (show ¬ nI 2 = 0 by decide), if_pos (nI_lt (by omega) (by omega))]
            · rw [if_neg hF, if_neg hF]
              obtain ⟨q, q1, q2⟩ := hQ hF
              unfold q_alo
              rw [if_neg (show ¬ F0 = 0 from hF), q2, if_pos (nI_lt (by omega) (by omega))]
          have e30 : M 67 30 = nI (q_tp B s (q_ad B s (c + 1) i)) := n2.2.1
          refine ⟨(nI (c + 1), M4), ⟨rfl, ⟨⟨fun x x1 x2 x3 x4 => by (try dsimp only); rw [r2 x x2]; exact hfr3.1 x x1 x2 x3 x4, fun k x1 x2 => by (try dsimp only); rw [r3 k x1 x2]; exact hfr3.2.1 k x1 x2, by (try dsimp only); rw [r2 67 (by decide)]; exact hfr3.2.2⟩, by (try dsimp only); rw [r2 67 (by decide), z67 38 (by decide)]; exact m3, by (try dsimp only); rw [r2 83 (by decide), z1 83 (by decide), p2 83 (by decide)]; exact m4, fun j hj => by (try dsimp only); rw [r2 82 (by decide), z3 j (by omega)]; exact m5 j hj⟩, Or.inl ⟨hgd, ?_, by (try dsimp only); rw [r2 67 (by decide)]; exact h35, by (try dsimp only); rw [r4, z68, hal], by (try dsimp only); rw [r5, z68, hal], fun d hd => by (try dsimp only); rw [r2 82 (by decide)]; exact htold d hd⟩⟩, fun zrec => ?_⟩
          · have e67 : M4 67 = M3 67 := r2 67 (by decide)
            unfold q_mt
            dsimp only
            rw [e67]
            exact hmt3
          · unfold B_X12_aTownLine_64
            simp only [m_numbersOf hw.1 hw.2, Option.bind_some, if_neg a1, if_pos n3z, gp_67_36 hG, hnum, nI_add, n_ck i82, k82, n_let, hz, z2, hmay, bI_iff, e30, r1]
      | false =>
        have h31 : ¬ M 67 31 = nI 1 := fun e => by
          rw [n2.2.2.1] at e
          have := (q_tt_1 (B := B) hj).mp ((nI_eq (by omega) (by decide)).mp e)
          rw [hq] at this; cases this
        have hnum : f_X12_numbered zn N M P 67 = some (M 67 32, p_u (p_u (p_u M 67 35 (nI 1)) 68 9 (nI 1)) 68 10 (M 67 30)) := by
          unfold f_X12_numbered
          rw [if_pos n3z, if_neg h31, m_stops hG n3, Option.bind_some]
        generalize hz : p_u (p_u (p_u (p_u M 67 35 (nI 1)) 68 9 (nI 1)) 68 10 (M 67 30)) 82 (6 * l + 1 + c) (M 67 32) = M3
        have z1 : ∀ x, x ≠ 67 → x ≠ 68 → x ≠ 82 → M3 x = M x := fun x x1 x2 x3 => by rw [← hz, p_u_ne x3, p_u_ne x2, p_u_ne x2, p_u_ne x1]
        have z2 : M3 67 35 = nI 1 := by rw [← hz, p_u_ne (by decide), p_u_ne (by decide), p_u_ne (by decide), p_u_self]
        have z3 : ∀ k, k ≠ 35 → M3 67 k = M 67 k := fun k hk => by rw [← hz, p_u_ne (by decide), p_u_ne (by decide), p_u_ne (by decide), p_u_nk hk]
        have z4 : ∀ k, k ≠ 9 → k ≠ 10 → M3 68 k = M 68 k := fun k x1 x2 => by rw [← hz, p_u_ne (by decide), p_u_nk x2, p_u_nk x1, p_u_ne (by decide)]
        have z5 : M3 68 9 = nI 1 := by rw [← hz, p_u_ne (by decide), p_u_nk (by decide), p_u_self]
        have z6 : M3 68 10 = M 67 30 := by rw [← hz, p_u_ne (by decide), p_u_self]
        have z7 : ∀ j, j ≠ 6 * l + 1 + c → M3 82 j = M 82 j := fun j hj => by rw [← hz, p_u_nk hj, p_u_ne (by decide), p_u_ne (by decide), p_u_ne (by decide)]
        obtain ⟨b, hb⟩ := m_mayBe_any (nI (q_wo B s i)) (nI c) (M3 82 (6 * l + 1 + c))
        refine ⟨(nI (c + 1), M3), ⟨rfl, ⟨⟨fun x x1 x2 x3 x4 => by (try dsimp only); rw [z1 x x1 x2 x3]; exact m2.1 x x1 x2 x3 x4, fun k x1 x2 => by (try dsimp only); rw [z4 k x1 x2]; exact m2.2.1 k x1 x2, by (try dsimp only); rw [z3 28 (by decide)]; exact m2.2.2⟩, by (try dsimp only); rw [z3 38 (by decide)]; exact m3, by (try dsimp only); rw [z1 83 (by decide) (by decide) (by decide)]; exact m4, fun j hj => by (try dsimp only); rw [z7 j (by omega)]; exact m5 j hj⟩, Or.inr ⟨c + 1, ⟨by omega, fun d hd => n1 d (by omega), by (try dsimp only); rw [q_gd_n hc]; exact hq⟩, z2, z5, by (try dsimp only); rw [z6, n2.2.1]⟩⟩, fun zrec => ?_⟩
        unfold B_X12_aTownLine_64
        simp only [m_numbersOf hw.1 hw.2, Option.bind_some, if_neg a1, if_pos n3z, gp_67_36 hG, hnum, nI_add, n_ck i82, k82, n_let, hz, hb, m_also_n z2]
        by_cases hb0 : b = 0
        · simp only [if_pos hb0, Option.bind_some]
        · simp only [if_neg hb0, Option.bind_some]
    · right
      refine ⟨M, ⟨m2, m3, m4, m5, Or.inr hfail⟩, fun zrec => ?_⟩
      obtain ⟨d, d1, d2, d3, d4⟩ := hfail
      unfold B_X12_aTownLine_64
      simp only [m_numbersOf hw.1 hw.2, Option.bind_some, if_neg a1]
      rw [d2, if_neg (show ¬ nI 1 = 0 by decide)]
  · rintro ⟨zi, M⟩ ⟨m1, ⟨m2, m3, m4, m5⟩, m6⟩
    dsimp only at m1 m2 m3 m4 m5 m6
    subst m1
    refine ⟨M, ⟨m2, m3, m4, m5, m6⟩, fun zrec => ?_⟩
    unfold B_X12_aTownLine_64
    simp only [m_numbersOf hw.1 hw.2, Option.bind_some, if_pos (nI_le (Nat.le_refl (q_nn (q_wo B s i))) (show q_nn (q_wo B s i) < 2 ^ 31 by omega))]
end MNums
