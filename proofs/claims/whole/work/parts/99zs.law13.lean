/-! the law: the reference reads all lines -/
section Law13
variable {N : pN} {P : pR} {J X M : pI} {B : Nat → Nat} {s i l zn : Nat}
theorem q_rM.to {f g : Nat → Int32} (h : q_rM f B s i) (h4 : q_lk B s i ≤ 4) (e : ∀ k, k < 20 → g k = f k) : q_rM g B s i := by
  obtain ⟨h1, h2, h3⟩ := h
  refine ⟨by rw [e 0 (by decide)]; exact h1, by rw [e 17 (by decide)]; exact h2, fun t ht => ?_⟩
  obtain ⟨a1, a2, a3, a4⟩ := h3 t ht
  have hk : ∀ k, k < 4 → g (1 + 4 * t + k) = f (1 + 4 * t + k) := fun k hk => e _ (by omega)
  exact ⟨(hk 0 (by decide)).trans a1, (hk 1 (by decide)).trans a2, fun h => ⟨(hk 2 (by decide)).trans (a3 h).1, (hk 3 (by decide)).trans (a3 h).2⟩, fun h => ⟨(hk 2 (by decide)).trans (a4 h).1, (hk 3 (by decide)).trans (a4 h).2⟩⟩
def q_mrw (V : pI) (B : Nat → Nat) (s l : Nat) : Prop := ∀ k, k < l → k < 16 → q_lk B s (q_lls B s k).1 ≤ 4 → q_rM (fun j => V 84 (20 * k + j)) B s (q_lls B s k).1
theorem m_lawLoop (hX : q_MX N P J B s) (hmt : q_mt J B s 0) (h35 : J 67 35 = nI 0) (h38 : J 67 38 = nI 0) (h9 : J 68 9 = nI 0) (h10 : J 68 10 = -1) (hn : 600 < zn) : ∃ M, p_it (B_X12_law_4 zn N P 67) zn J = some M ∧ q_mlh J M 0 ∧ ∃ l W, q_lout B s l W ∧ (M 68 9, M 68 10) = W ∧ (W.1 = nI 0 → M 67 38 = nI l ∧ l ≤ 16 ∧ q_mrw M B s l) := by
  have hs := hX.2.2.1
  have hG := hX.1
  refine p_loopI (B := B_X12_law_4 zn N P 67) (zJ := fun c (K : pI) => q_mlh J K 0 ∧ (((∀ k, k < c → q_lb B s (q_lls B s k).1 = none) ∧ q_mt K B s (q_lls B s c).1 ∧ K 67 35 = nI 0 ∧ K 67 38 = nI c ∧ (K 68 9, K 68 10) = (q_lls B s c).2 ∧ q_mrw K B s c) ∨ (K 67 35 = nI 1 ∧ ∃ l W, q_lout B s l W ∧ W.1 = nI 1 ∧ (K 68 9, K 68 10) = W))) (zE := fun M => q_mlh J M 0 ∧ ∃ l W, q_lout B s l W ∧ (M 68 9, M 68 10) = W ∧ (W.1 = nI 0 → M 67 38 = nI l ∧ l ≤ 16 ∧ q_mrw M B s l)) (zm := 252) (zn := zn) (by omega) ?_ ?_ J ⟨q_mlh.rf, Or.inl ⟨fun k hk => absurd hk (by omega), hmt, h35, h38, by rw [h9, h10]; rfl, fun k hk => absurd hk (by omega)⟩⟩
  · rintro c hc K ⟨m1, m2⟩
    rcases m2 with ⟨c1, c2, c3, c4, c5, c6⟩ | ⟨c1, l, W, c2, c3, c4⟩
    · have hpos := q_lls_b c1
      have htt := q_tt_b (B := B) (s := s) (i := (q_lls B s c).1)
      by_cases hk0 : q_tk B s (q_lls B s c).1 = 0
      · right
        refine ⟨K, ⟨m1, c, _, ⟨c1, Or.inl ⟨hk0, rfl⟩⟩, c5, fun h => ?_⟩, fun zrec => ?_⟩
        · have hz := q_lls_z h
          have h16 : c ≤ 16 := by
            by_cases e : c = 0
            · omega
            · have := (hz (c - 1) (by omega)).1
              omega
          exact ⟨c4, h16, c6⟩
        · unfold B_X12_law_4
          rw [if_pos (show K 67 35 = 0 from c3), if_pos (show K 67 31 = 0 by rw [c2.2.2.1, (q_tt_0 hpos.2).mpr hk0]; rfl)]
      · left
        obtain ⟨M, v1, v2, v3⟩ := m_lawLine (L := c) (m1.x hX) hpos.2 c2 c3 c4 (by omega) (by rw [c5]; exact q_w5_st c1) hn
        have hM : q_mlh J M 0 := ⟨fun x x1 x2 x3 x4 => by rw [v2.1 x x1 x2 x3 x4, m1.1 x x1 x2 x3 x4], fun k x1 x2 => by rw [v2.2.1 k x1 x2, m1.2.1 k x1 x2], fun k hk => by rw [v2.2.2.1 k hk, m1.2.2.1 k hk], fun k hk => absurd hk (by omega)⟩
        refine ⟨M, ⟨hM, ?_⟩, fun zrec => ?_⟩
        · rcases v3 with ⟨u1, u2, u3, u4, u5, u6⟩ | ⟨p, u1, u2, u3, u4⟩
          · left
            refine ⟨fun k hk => ?_, u2, u3, u4, ?_, fun k hk h16 hk4 => ?_⟩
            · by_cases e : k = c
              · rw [e]; exact u1
              · exact c1 k (by omega)
            · rw [u5, c5]; rfl
            · by_cases e : k = c
              · subst e
                exact u6 h16 hk4
              · exact (c6 k (by omega) h16 hk4).to hk4 (fun j hj => v2.2.2.2 _ (by omega))
          · right
            exact ⟨u2, c, _, ⟨c1, Or.inr ⟨hk0, p, u1, rfl⟩⟩, rfl, by rw [u3, u4]⟩
        · unfold B_X12_law_4
          rw [if_pos (show K 67 35 = 0 from c3), if_neg (fun e => by
            rw [c2.2.2.1] at e
            exact hk0 ((q_tt_0 hpos.2).mp ((nI_eq (by omega) (by omega)).mp (show nI _ = nI 0 from e)))), v1, Option.bind_some]
    · right
      refine ⟨K, ⟨m1, l, W, c2, c4, fun h => absurd (c3.symm.trans h) (by decide)⟩, fun zrec => ?_⟩
      unfold B_X12_law_4
      rw [c1, if_neg (show ¬ nI 1 = 0 by decide)]
  · rintro K ⟨m1, m2⟩
    rcases m2 with ⟨c1, c2⟩ | ⟨c1, l, W, c2, c3, c4⟩
    · have hpos := q_lls_b c1
      omega
    · refine ⟨K, ⟨m1, l, W, c2, c4, fun h => absurd (c3.symm.trans h) (by decide)⟩, fun zrec => ?_⟩
      unfold B_X12_law_4
      rw [c1, if_neg (show ¬ nI 1 = 0 by decide)]
theorem m_lawCopy (hG : GW N P) (hn : 600 < zn) : ∃ M, p_it (B_X12_law_39 N P 67) zn (nI 0, J) = some M ∧ (∀ x, x ≠ 68 → M x = J x) ∧ (∀ k, k < 320 → M 68 (340 + k) = J 84 k) ∧ ∀ k, k < 340 ∨ 660 ≤ k → M 68 k = J 68 k := by
  refine p_loopI (B := B_X12_law_39 N P 67) (zJ := fun c (zc : Int32 × pI) => zc.1 = nI c ∧ (∀ x, x ≠ 68 → zc.2 x = J x) ∧ (∀ k, k < c → zc.2 68 (340 + k) = J 84 k) ∧ ∀ k, k < 340 ∨ 660 ≤ k → zc.2 68 k = J 68 k) (zE := fun M => (∀ x, x ≠ 68 → M x = J x) ∧ (∀ k, k < 320 → M 68 (340 + k) = J 84 k) ∧ ∀ k, k < 340 ∨ 660 ≤ k → M 68 k = J 68 k) (zm := 320) (zn := zn) (by omega) ?_ ?_ (nI 0, J) ⟨rfl, fun _ _ => rfl, fun k hk => absurd hk (by omega), fun _ _ => rfl⟩
  · rintro c hc ⟨zi, X⟩ ⟨m1, m2, m3, m4⟩
    dsimp only at m1 m2 m3 m4
    subst m1
    left
    have a1 : ¬ nI 320 ≤ nI c := nI_ge hc (by omega)
    have i84 : p_ib N 84 (nI c) = true := n_ib (gn_84 hG) hc (by decide)
    have i68 : p_ib N 68 (nI (340 + c)) = true := ib_68 hG (by omega)
    have kc : (nI c).toNatClampNeg = c := nI_clamp (by omega)
    have kd : (nI (340 + c)).toNatClampNeg = 340 + c := nI_clamp (by omega)
    refine ⟨(nI (c + 1), p_u X 68 (340 + c) (X 84 c)), ⟨rfl, fun x hx => by dsimp only; rw [p_u_ne hx]; exact m2 x hx, fun k hk => ?_, fun k hk => by dsimp only; rw [p_u_nk (by omega)]; exact m4 k hk⟩, fun zrec => ?_⟩
    · dsimp only
      by_cases e : k = c
      · rw [e, p_u_self, m2 84 (by decide)]
      · rw [p_u_nk (by omega)]; exact m3 k (by omega)
    · unfold B_X12_law_39
      simp only [if_neg a1, gp_67_0 hG, gp_67_39 hG, Option.bind_some, nI_add, n_ck i84, n_ck i68, kc, kd, n_let]
  · rintro ⟨zi, X⟩ ⟨m1, m2, m3, m4⟩
    dsimp only at m1 m2 m3 m4
    subst m1
    refine ⟨X, ⟨m2, m3, m4⟩, fun zrec => ?_⟩
    unfold B_X12_law_39
    simp only [if_pos (show nI 320 ≤ nI 320 by decide)]
theorem m_law (hG : GW N P) (h8 : J 68 8 = nI s) (hs : s ≤ 500) (hb : ∀ j, j < s → J 68 (660 + j) = nI (B j) ∧ B j ≤ 255) (hn : 600 < zn) : ∃ l W M, q_lout B s l W ∧ f_X12_law zn N J P 67 = some (if W.1 = nI 0 then nI l else -1, M) ∧ (∀ x, x ≠ 67 → x ≠ 68 → x ≠ 84 → x ≠ 85 → M x = J x) ∧ M 68 8 = nI 0 ∧ M 68 9 = W.1 ∧ M 68 10 = W.2 ∧ (¬ W.1 = nI 0 → ∀ k, k ≠ 8 → k ≠ 9 → k ≠ 10 → M 68 k = J 68 k) ∧ (W.1 = nI 0 → M 68 6 = nI l ∧ (∀ k, k ≠ 6 → k ≠ 8 → k ≠ 9 → k ≠ 10 → k < 340 ∨ 660 ≤ k → M 68 k = J 68 k) ∧ ∀ k, k < l → q_rM (fun j => M 68 (340 + 20 * k + j)) B s (q_lls B s k).1) := by
  obtain ⟨R, r1, r2, r3, r4, r5, r6, r7, r8, r9, r10⟩ := m_reads hG h8 hs hb hn
  obtain ⟨T, t1, t2, l, W, t3, t4, t5⟩ := m_lawLoop r2 r3 r4 r5 r7 r8 hn
  have i9 : p_ib N 68 (nI 9) = true := ib_68 hG (by decide)
  have i6 : p_ib N 68 (nI 6) = true := ib_68 hG (by decide)
  have k9 : (nI 9).toNatClampNeg = 9 := by decide
  have k6 : (nI 6).toNatClampNeg = 6 := by decide
  have w9 : T 68 9 = W.1 := congrArg Prod.fst t4
  have w10 : T 68 10 = W.2 := congrArg Prod.snd t4
  have f0 : ∀ x, x ≠ 67 → x ≠ 68 → x ≠ 84 → x ≠ 85 → T x = J x := fun x x1 x2 x3 x4 => by rw [t2.1 x x1 x2 x3 x4, r9 x x1 x2]
  have f8 : ∀ k, k ≠ 8 → k ≠ 9 → k ≠ 10 → T 68 k = J 68 k := fun k x1 x2 x3 => by rw [t2.2.1 k x2 x3, r10 k x1 x2 x3]
  have f88 : T 68 8 = nI 0 := by rw [t2.2.1 8 (by decide) (by decide), r6]
  by_cases hF : W.1 = nI 0
  · obtain ⟨g1, g2, g3⟩ := t5 hF
    obtain ⟨C, c1, c2, c3, c4⟩ := m_lawCopy (J := T) hG hn
    have hlz : (q_lls B s l).2.1 = nI 0 := by
      rcases t3.2 with ⟨_, a2⟩ | ⟨_, p, _, a3⟩
      · rw [← a2]; exact hF
      · rw [a3] at hF; exact absurd hF (show ¬ nI 1 = nI 0 by decide)
    have hl4 := q_lls_z hlz
    have h38 : C 67 38 = nI l := by rw [c2 67 (by decide)]; exact g1
    have h9 : T 68 9 = 0 := by rw [w9]; exact hF
    have e38 : p_u C 68 6 (nI l) 67 38 = nI l := by rw [p_u_ne (by decide)]; exact h38
    refine ⟨l, W, p_u C 68 6 (nI l), t3, ?_, fun x x1 x2 x3 x4 => by rw [p_u_ne x2, c2 x x2, f0 x x1 x2 x3 x4], by rw [p_u_nk (by decide), c4 8 (by omega)]; exact f88, by rw [p_u_nk (by decide), c4 9 (by omega)]; exact w9, by rw [p_u_nk (by decide), c4 10 (by omega)]; exact w10, fun e => absurd hF e, fun _ => ⟨p_u_self, fun k x1 x2 x3 x4 x5 => by rw [p_u_nk x1, c4 k x5, f8 k x2 x3 x4], fun k hk => ?_⟩⟩
    · unfold f_X12_law
      simp only [r1, Option.bind_some, t1, gp_67_0 hG, n_ck i9, k9, if_pos h9, c1, n_ck i6, k6, n_let, h38, e38, if_pos hF]
    · refine (g3 k hk (hl4 k hk).1 (hl4 k hk).2).to (hl4 k hk).2 (fun j hj => ?_)
      rw [p_u_nk (by omega), show 340 + 20 * k + j = 340 + (20 * k + j) by omega, c3 _ (by have := (hl4 k hk).1; omega)]
  · have h9 : ¬ T 68 9 = 0 := by rw [w9]; exact hF
    refine ⟨l, W, T, t3, ?_, f0, f88, w9, w10, fun _ => f8, fun e => absurd e hF⟩
    unfold f_X12_law
    simp only [r1, Option.bind_some, t1, gp_67_0 hG, n_ck i9, k9, if_neg h9, if_neg hF]
end Law13
