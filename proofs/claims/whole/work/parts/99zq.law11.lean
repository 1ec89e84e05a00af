/-! the law: the reference reads a line -/
def q_mlh (J M : pI) (L : Nat) : Prop := (∀ x, x ≠ 67 → x ≠ 68 → x ≠ 84 → x ≠ 85 → M x = J x) ∧ (∀ k, k ≠ 9 → k ≠ 10 → M 68 k = J 68 k) ∧ (∀ k, k < 29 ∨ 38 < k → M 67 k = J 67 k) ∧ ∀ k, k < 20 * L → M 84 k = J 84 k
section Law11
variable {N : pN} {P : pR} {J M : pI} {B : Nat → Nat} {s i zn L : Nat}
theorem q_mlh.rf : q_mlh J J L := ⟨fun _ _ _ _ _ => rfl, fun _ _ _ => rfl, fun _ _ => rfl, fun _ _ => rfl⟩
theorem q_mlh.tr {M2 : pI} (h1 : q_mlh J M L) (h2 : q_mlh M M2 L) : q_mlh J M2 L := ⟨fun x x1 x2 x3 x4 => by rw [h2.1 x x1 x2 x3 x4, h1.1 x x1 x2 x3 x4], fun k x1 x2 => by rw [h2.2.1 k x1 x2, h1.2.1 k x1 x2], fun k hk => by rw [h2.2.2.1 k hk, h1.2.2.1 k hk], fun k hk => by rw [h2.2.2.2 k hk, h1.2.2.2 k hk]⟩
theorem q_mlh.x (h : q_mlh J M L) (hX : q_MX N P J B s) : q_MX N P M B s := hX.to (h.2.2.1 28 (by omega)) (fun j a b => h.2.1 j (by omega) (by omega))
theorem q_mlf.h (h : q_mlf J M) : q_mlh J M L := ⟨fun x x1 x2 x3 x4 => h.1 x x1 x2 x4, h.2.1, fun k hk => h.2.2 k (by omega), fun k _ => by rw [h.1 84 (by decide) (by decide) (by decide)]⟩
theorem m_putsL (hG : GW N P) {k : Nat} {v : Int32} (h38 : J 67 38 = nI L) (hL : L < 1000) (hk : k < 20) : f_X12_puts N J P 67 (nI k) v = some (if L < 16 then p_u J 84 (20 * L + k) v else J) := by
  unfold f_X12_puts
  rw [h38]
  by_cases c : L < 16
  · rw [if_neg (nI_ge c (by omega)), gp_67_39 hG, Option.bind_some, pk_mul, nI_add, n_ck (n_ib (gn_84 hG) (by omega) (by decide)), n_let, nI_clamp (by omega), if_pos c]
  · rw [if_pos (nI_le (by omega) (by omega)), if_neg c]
theorem m_putTest (hG : GW N P) {t : Nat} (ht : t < 1000) (h38 : J 67 38 = nI L) (hL : L < 1000) (hn : 600 < zn) : ∃ M, p_it (B_X12_aLawLine_55 N P 67 (nI t)) zn (nI 0, J) = some M ∧ (∀ x, x ≠ 84 → M x = J x) ∧ (∀ k, k < 20 * L + (1 + 4 * t) → M 84 k = J 84 k) ∧ (L < 16 → t < 4 → ∀ c, c < 4 → M 84 (20 * L + (1 + 4 * t + c)) = J 85 c) := by
  refine p_loopI (B := B_X12_aLawLine_55 N P 67 (nI t)) (zJ := fun d (zc : Int32 × pI) => zc.1 = nI d ∧ (∀ x, x ≠ 84 → zc.2 x = J x) ∧ (∀ k, k < 20 * L + (1 + 4 * t) → zc.2 84 k = J 84 k) ∧ (L < 16 → t < 4 → ∀ c, c < d → zc.2 84 (20 * L + (1 + 4 * t + c)) = J 85 c)) (zE := fun M => (∀ x, x ≠ 84 → M x = J x) ∧ (∀ k, k < 20 * L + (1 + 4 * t) → M 84 k = J 84 k) ∧ (L < 16 → t < 4 → ∀ c, c < 4 → M 84 (20 * L + (1 + 4 * t + c)) = J 85 c)) (zm := 4) (zn := zn) (by omega) ?_ ?_ (nI 0, J) ⟨rfl, fun _ _ => rfl, fun _ _ => rfl, fun _ _ c hc => absurd hc (by omega)⟩
  · rintro d hd ⟨zi, X⟩ ⟨m1, m2, m3, m4⟩
    dsimp only at m1 m2 m3 m4
    subst m1
    have a1 : ¬ nI 4 ≤ nI d := nI_ge hd (by omega)
    by_cases c4 : t < 4
    · left
      have a2 : ¬ nI 4 ≤ nI t := nI_ge c4 (by omega)
      have ib : p_ib N 85 (nI d) = true := n_ib (gn_85 hG) hd (by decide)
      have kd : (nI d).toNatClampNeg = d := nI_clamp (by omega)
      have h38X : X 67 38 = nI L := by rw [m2 67 (by decide)]; exact h38
      have hp := m_putsL (J := X) (k := 1 + 4 * t + d) (v := X 85 d) hG h38X hL (by omega)
      refine ⟨(nI (d + 1), if L < 16 then p_u X 84 (20 * L + (1 + 4 * t + d)) (X 85 d) else X), ⟨rfl, fun x hx => ?_, fun k hk => ?_, fun hl _ c hc => ?_⟩, fun zrec => ?_⟩
      · dsimp only
        split
        · rw [p_u_ne hx]; exact m2 x hx
        · exact m2 x hx
      · dsimp only
        split
        · rw [p_u_nk (by omega)]; exact m3 k hk
        · exact m3 k hk
      · dsimp only
        rw [if_pos hl]
        by_cases e : c = d
        · rw [e, p_u_self, m2 85 (by decide)]
        · rw [p_u_nk (by omega)]; exact m4 hl c4 c (by omega)
      · unfold B_X12_aLawLine_55
        simp only [if_neg a1, if_neg a2, gp_67_40 hG, Option.bind_some, n_ck ib, kd, pk_mul, nI_add, hp]
    · right
      have a2 : nI 4 ≤ nI t := nI_le (by omega) (by omega)
      refine ⟨X, ⟨m2, m3, fun _ h => absurd h c4⟩, fun zrec => ?_⟩
      unfold B_X12_aLawLine_55
      simp only [if_neg a1, if_pos a2]
  · rintro ⟨zi, X⟩ ⟨m1, m2, m3, m4⟩
    dsimp only at m1 m2 m3 m4
    subst m1
    refine ⟨X, ⟨m2, m3, m4⟩, fun zrec => ?_⟩
    unfold B_X12_aLawLine_55
    simp only [if_pos (show nI 4 ≤ nI 4 by decide)]
/-- how the tests of a line end, for the reference -/
def q_mlE (J X : pI) (B : Nat → Nat) (s i L : Nat) (W : Int32 × Int32) (a : Int32) : Prop := q_mlh J X L ∧ X 67 38 = nI L ∧ ((∃ p, q_tbad B s (q_tq B s i (q_lc B s i)) = some p ∧ q_mlbad X B s p) ∨ (q_tbad B s (q_tq B s i (q_lc B s i)) = none ∧ a = nI (q_lc B s i + 1) ∧ q_mt X B s (q_lp B s i) ∧ X 67 35 = nI 0 ∧ (X 68 9, X 68 10) = q_fts B s i W (q_lc B s i + 1) ∧ (L < 16 → ∀ t, t < q_lc B s i + 1 → t < 4 → q_tcM (fun k => X 84 (20 * L + (1 + 4 * t + k))) B s (q_tq B s i t))))
theorem m_lawTests (hX : q_MX N P J B s) (hi : i ≤ s) (hmt : q_mt J B s (q_te B s i)) (h35 : J 67 35 = nI 0) (h38 : J 67 38 = nI L) (hL : L < 1000) (hw : q_w5 (J 68 9, J 68 10) (q_tp B s i)) (hn : 600 < zn) : ∃ zt : Int32 × pI, p_it (B_X12_aLawLine_31 zn N P 67) zn (nI 0, nI 1, J) = some zt ∧ q_mlE J zt.2 B s i L (J 68 9, J 68 10) zt.1 := by
  have hs := hX.2.2.1
  have hG := hX.1
  refine p_loopI (B := B_X12_aLawLine_31 zn N P 67) (zJ := fun c (zc : Int32 × Int32 × pI) => zc.1 = nI c ∧ ((zc.2.1 = nI 1 ∧ (∀ t, t < c → q_tgo B s i t = true) ∧ q_mlh J zc.2.2 L ∧ zc.2.2 67 38 = nI L ∧ q_mt zc.2.2 B s (q_tq B s i c) ∧ zc.2.2 67 35 = nI 0 ∧ (zc.2.2 68 9, zc.2.2 68 10) = q_fts B s i (J 68 9, J 68 10) c ∧ (L < 16 → ∀ t, t < c → t < 4 → q_tcM (fun k => zc.2.2 84 (20 * L + (1 + 4 * t + k))) B s (q_tq B s i t))) ∨ (zc.2.1 = nI 0 ∧ q_mlE J zc.2.2 B s i L (J 68 9, J 68 10) zc.1))) (zE := fun (zt : Int32 × pI) => q_mlE J zt.2 B s i L (J 68 9, J 68 10) zt.1) (zm := 252) (zn := zn) (by omega) ?_ ?_ (nI 0, nI 1, J) ⟨rfl, Or.inl ⟨rfl, fun t ht => absurd ht (by omega), q_mlh.rf, h38, hmt, h35, rfl, fun _ t ht => absurd ht (by omega)⟩⟩
  · rintro c hc ⟨za, zf, X⟩ ⟨m1, m2⟩
    dsimp only at m1 m2
    subst m1
    rcases m2 with ⟨m2, m3, m4, m5, m6, m7, m8, m9⟩ | ⟨m2, m3⟩
    · subst m2
      left
      have hq := (q_tq_b (B := B) hi c).2
      have hXX := m4.x hX
      have htp := q_tp_b (B := B) hq
      have hw5 : q_w5 (X 68 9, X 68 10) (q_tp B s (q_tq B s i c)) := by rw [m8]; exact q_w5_m (q_w5_ft hi hw c) htp.1
      obtain ⟨Y, y1, y2, y3, y4, y5⟩ : ∃ Y, (if nI c ≤ nI 3 then some X else Option.bind (f_X12_also N X P 67 (nI 5) (X 67 30)) fun q13 => some q13) = some Y ∧ q_mlf X Y ∧ q_mt Y B s (q_tq B s i c) ∧ Y 67 35 = nI 0 ∧ (Y 68 9, Y 68 10) = q_fts B s i (J 68 9, J 68 10) (c + 1) := by
        have hft : q_fts B s i (J 68 9, J 68 10) (c + 1) = if c < 4 then q_fts B s i (J 68 9, J 68 10) c else q_f5 (q_fts B s i (J 68 9, J 68 10) c) (q_tp B s (q_tq B s i c)) := rfl
        rw [hft, ← m8]
        by_cases c4 : c < 4
        · rw [if_pos (nI_le (show c ≤ 3 by omega) (by omega)), if_pos c4]
          exact ⟨X, rfl, q_mlf.rf, m6, m7, rfl⟩
        · obtain ⟨Y, y1, y2, y3, y4, y5⟩ := m_also (N := N) (P := P) (x := nI 5) (y := nI (q_tp B s (q_tq B s i c))) hG m7
          have ha := q_alo_5 hw5 (show q_tp B s (q_tq B s i c) < 1000 by omega)
          dsimp only at ha
          rw [ha] at y4 y5
          rw [if_neg (nI_ge (show 3 < c by omega) (by omega)), if_neg c4, m6.2.1, y1, Option.bind_some]
          refine ⟨Y, rfl, ⟨fun x _ x2 _ => y2 x x2, y3, fun k _ => by rw [y2 67 (by decide)]⟩, ?_, by rw [y2 67 (by decide)]; exact m7, by rw [y4, y5]⟩
          unfold q_mt at m6 ⊢
          rw [y2 67 (by decide)]; exact m6
      have hXY := y2.x hXX
      obtain ⟨A, a1, a2, a3⟩ := m_aTest hXY hq y3 y4 hn
      have h38A : A 67 38 = nI L := by rw [a2.2.2 38 (by omega), y2.2.2 38 (by omega)]; exact m5
      obtain ⟨D, d1, d2, d3, d4⟩ := m_putTest (J := A) (t := c) hG (by omega) h38A hL hn
      have e67 : D 67 = A 67 := d2 67 (by decide)
      have e68 : D 68 = A 68 := d2 68 (by decide)
      have hD : q_mlh J D L := (m4.tr (y2.tr a2).h).tr ⟨fun x _ _ x3 _ => d2 x x3, fun k _ _ => by rw [e68], fun k _ => by rw [e67], fun k hk => d3 k (by omega)⟩
      have h38D : D 67 38 = nI L := by rw [e67]; exact h38A
      have e84 : ∀ k, k < 20 * L + (1 + 4 * c) → D 84 k = X 84 k := fun k hk => by rw [d3 k hk, a2.1 84 (by decide) (by decide) (by decide), y2.1 84 (by decide) (by decide) (by decide)]
      rcases a3 with ⟨b1, ⟨b2, b3, b4, b5⟩, b6⟩ | ⟨p, b1, b2⟩
      · have dmt : q_mt D B s (q_tnx B s (q_tq B s i c)) := by
          unfold q_mt at b2 ⊢
          rw [e67]; exact b2
        have d35 : D 67 35 = nI 0 := by rw [e67]; exact b3
        have dW : (D 68 9, D 68 10) = q_fts B s i (J 68 9, J 68 10) (c + 1) := by rw [e68, b4, b5]; exact y5
        have dcell : L < 16 → ∀ t, t < c + 1 → t < 4 → q_tcM (fun k => D 84 (20 * L + (1 + 4 * t + k))) B s (q_tq B s i t) := fun hl t ht h4 => by
          by_cases e : t = c
          · subst e
            have hk := d4 hl h4
            exact ⟨(hk 0 (by decide)).trans b6.1, (hk 1 (by decide)).trans b6.2.1, fun h => ⟨(hk 2 (by decide)).trans (b6.2.2.1 h).1, (hk 3 (by decide)).trans (b6.2.2.1 h).2⟩, fun h => ⟨(hk 2 (by decide)).trans (b6.2.2.2 h).1, (hk 3 (by decide)).trans (b6.2.2.2 h).2⟩⟩
          · have hm := m9 hl t (by omega) h4
            have hk : ∀ k, k < 4 → D 84 (20 * L + (1 + 4 * t + k)) = X 84 (20 * L + (1 + 4 * t + k)) := fun k hk => e84 _ (by omega)
            exact ⟨(hk 0 (by decide)).trans hm.1, (hk 1 (by decide)).trans hm.2.1, fun h => ⟨(hk 2 (by decide)).trans (hm.2.2.1 h).1, (hk 3 (by decide)).trans (hm.2.2.1 h).2⟩, fun h => ⟨(hk 2 (by decide)).trans (hm.2.2.2 h).1, (hk 3 (by decide)).trans (hm.2.2.2 h).2⟩⟩
        have hnx := (q_tnx_b (B := B) hq).2
        have hXD := hD.x hX
        by_cases h31 : q_wo B s (q_tnx B s (q_tq B s i c)) = 31
        · obtain ⟨E, t1, t2, t3, t4⟩ := m_takes_t hXD hnx dmt d35 h31 (by decide) (by decide) hn
          refine ⟨(nI (c + 1), nI 1, E), ⟨rfl, Or.inl ⟨rfl, fun t ht => ?_, hD.tr ⟨fun x x1 _ _ _ => t2 x x1, fun k _ _ => by dsimp only; rw [t2 68 (by decide)], fun k hk => t3 k (by omega), fun k _ => by dsimp only; rw [t2 84 (by decide)]⟩, by dsimp only; rw [t3 38 (by omega)]; exact h38D, t4, by dsimp only; rw [t3 35 (by omega)]; exact d35, by dsimp only; rw [t2 68 (by decide)]; exact dW, fun hl t ht h4 => by dsimp only; rw [t2 84 (by decide)]; exact dcell hl t ht h4⟩⟩, fun zrec => ?_⟩
          · by_cases e : t = c
            · subst e
              unfold q_tgo
              rw [decide_eq_true b1, decide_eq_true h31]; rfl
            · exact m3 t (by omega)
          · unfold B_X12_aLawLine_31
            dsimp only
            rw [if_neg (show ¬ nI 1 = 0 by decide), y1, Option.bind_some, a1, Option.bind_some, d1, Option.bind_some, t1, Option.bind_some, nI_add]
        · have hc' : q_tgo B s i c = false := by
            unfold q_tgo
            rw [decide_eq_false h31, Bool.and_false]
          have hlc := q_lc_u hi hs m3 hc'
          have t1 := m_takes_f (N := N) (P := P) (zn := zn) (w := 31) hnx dmt h31 (by decide)
          refine ⟨(nI (c + 1), nI 0, D), ⟨rfl, Or.inr ⟨rfl, hD, h38D, Or.inr ?_⟩⟩, fun zrec => ?_⟩
          · dsimp only
            unfold q_lp
            rw [hlc]
            exact ⟨b1, rfl, dmt, d35, dW, dcell⟩
          · unfold B_X12_aLawLine_31
            dsimp only
            rw [if_neg (show ¬ nI 1 = 0 by decide), y1, Option.bind_some, a1, Option.bind_some, d1, Option.bind_some, t1, Option.bind_some, nI_add]
      · have hc' : q_tgo B s i c = false := by
          unfold q_tgo
          rw [b1]; rfl
        have hlc := q_lc_u hi hs m3 hc'
        have d35 : D 67 35 = nI 1 := by rw [e67]; exact b2.1
        have t1 := m_takes_n (N := N) (P := P) (zn := zn) (x := nI 31) d35
        refine ⟨(nI (c + 1), nI 0, D), ⟨rfl, Or.inr ⟨rfl, hD, h38D, Or.inl ⟨p, by rw [hlc]; exact b1, d35, by dsimp only; rw [e68]; exact b2.2.1, by dsimp only; rw [e68]; exact b2.2.2⟩⟩⟩, fun zrec => ?_⟩
        unfold B_X12_aLawLine_31
        dsimp only
        rw [if_neg (show ¬ nI 1 = 0 by decide), y1, Option.bind_some, a1, Option.bind_some, d1, Option.bind_some, t1, Option.bind_some, nI_add]
    · subst m2
      right
      refine ⟨(nI c, X), m3, fun zrec => ?_⟩
      unfold B_X12_aLawLine_31
      dsimp only
      rw [if_pos (show nI 0 = 0 from rfl)]
  · rintro ⟨za, zf, X⟩ ⟨m1, m2⟩
    dsimp only at m1 m2
    subst m1
    rcases m2 with ⟨m2, m3, m4⟩ | ⟨m2, m3⟩
    · have h1 := q_tgo_c hi m3
      have h2 := (q_tq_b (B := B) hi 252).2
      omega
    · subst m2
      refine ⟨(nI 252, X), m3, fun zrec => ?_⟩
      unfold B_X12_aLawLine_31
      dsimp only
      rw [if_pos (show nI 0 = 0 from rfl)]
end Law11
