/-! the law: the reference reads a line to its end -/
def f_lwEnd (zn : Nat) (N : pN) (P : pR) (X : pI) (a : Int32) : Option pI :=
  (if (X 67 35) = 0 then
    (if (X 67 31) = (nI 3) then
      Option.bind (f_X12_isIn (X 67 34) (nI 20) (nI 21)) fun q58 =>
      (if q58 = 0 then
        Option.bind (f_X12_stops N X P 67) fun q70 =>
        some q70
      else
        Option.bind (f_X12_puts N X P 67 (nI 17) (X 67 34)) fun q60 =>
        Option.bind (f_X12_advance zn N q60 P 67) fun q62 =>
        Option.bind (f_X12_must zn N q62 P 67 (nI 59)) fun q64 =>
        Option.bind (f_X12_puts N q64 P 67 (nI 0) a) fun q66 =>
        p_let (p_u q66 67 38 ((q66 67 38) + (nI 1))) fun I68 =>
        some I68)
    else
      Option.bind (f_X12_stops N X P 67) fun q56 =>
      some q56)
  else
    Option.bind (f_X12_stops N X P 67) fun q54 =>
    some q54)
def q_rM (f : Nat → Int32) (B : Nat → Nat) (s i : Nat) : Prop := f 0 = nI (q_lk B s i) ∧ f 17 = nI (q_wo B s (q_le B s i)) ∧ ∀ t, t < q_lk B s i → q_tcM (fun k => f (1 + 4 * t + k)) B s (q_tq B s i t)
section Law12
variable {N : pN} {P : pR} {J X M : pI} {B : Nat → Nat} {s i e zn L : Nat}
theorem q_mt.to (h : q_mt J B s i) (e : M 67 = J 67) : q_mt M B s i := by
  unfold q_mt at h ⊢
  rw [e]; exact h
theorem m_lawEnd (hX : q_MX N P X B s) (he : e ≤ s) (hmt : q_mt X B s e) (h35 : X 67 35 = nI 0) (h38 : X 67 38 = nI L) (hL : L < 1000) (a : Int32) (hn : 600 < zn) : ∃ M, f_lwEnd zn N P X a = some M ∧ q_mlh X M L ∧ ((q_lv B s e = none ∧ q_mt M B s (q_te B s (q_te B s e)) ∧ M 67 35 = nI 0 ∧ M 68 9 = X 68 9 ∧ M 68 10 = X 68 10 ∧ M 67 38 = nI (L + 1) ∧ (L < 16 → M 84 (20 * L + 0) = a ∧ M 84 (20 * L + 17) = nI (q_wo B s e) ∧ ∀ k, 0 < k → k < 17 → M 84 (20 * L + k) = X 84 (20 * L + k))) ∨ (∃ p, q_lv B s e = some p ∧ q_mlbad M B s p)) := by
  have hG := hX.1
  have htt := q_tt_b (B := B) (s := s) (i := e)
  have hwl := q_wo_lt (B := B) (s := s) (i := e)
  unfold f_lwEnd
  rw [if_pos (show X 67 35 = 0 from h35)]
  by_cases hg : q_wo B s e = 20 ∨ q_wo B s e = 21
  · have hk1 := q_wo_1 (B := B) (s := s) (i := e) (by omega)
    have h34 : X 67 34 = nI (q_wo B s e) := hmt.2.2.2.2.2 hk1
    have hp := m_putsL (J := X) (k := 17) (v := nI (q_wo B s e)) hG h38 hL (by decide)
    rw [if_pos (show X 67 31 = nI 3 by rw [hmt.2.2.1, (q_tt_3 he).mpr ⟨hk1, by omega⟩]), h34, m_isInR (by omega) (by decide) (by decide), Option.bind_some, decide_eq_true (show 20 ≤ q_wo B s e ∧ q_wo B s e ≤ 21 by omega), bI_ift, hp, Option.bind_some]
    generalize hy : (if L < 16 then p_u X 84 (20 * L + 17) (nI (q_wo B s e)) else X) = Y
    have y1 : ∀ x, x ≠ 84 → Y x = X x := fun x hx => by
      rw [← hy]
      split
      · rw [p_u_ne hx]
      · rfl
    have y2 : ∀ k, k ≠ 20 * L + 17 → Y 84 k = X 84 k := fun k hk => by
      rw [← hy]
      split
      · rw [p_u_nk hk]
      · rfl
    have y3 : L < 16 → Y 84 (20 * L + 17) = nI (q_wo B s e) := fun hl => by rw [← hy, if_pos hl, p_u_self]
    have hXY : q_MX N P Y B s := hX.to (by rw [y1 67 (by decide)]) (fun j _ _ => by rw [y1 68 (by decide)])
    have hte := (q_te_b (B := B) he).2.1
    obtain ⟨A, a1, a2, a3, a4⟩ := m_advL hXY hte (by rw [y1 67 (by decide)]; exact hmt.1) (by rw [y1 67 (by decide)]; exact h35) hn
    obtain ⟨amt, a35, a9, a10⟩ := a4
    have hXA := a2.x hXY
    obtain ⟨C, c1, c2, c3, c4⟩ := m_mustL (b := 59) hXA hte amt a35 (by decide) (by decide) hn
    have c38 : C 67 38 = nI L := by rw [c2.2.2 38 (by omega), a2.2.2 38 (by omega), y1 67 (by decide)]; exact h38
    have hp2 := m_putsL (J := C) (k := 0) (v := a) hG c38 hL (by decide)
    rw [a1, Option.bind_some, c1, Option.bind_some, hp2, Option.bind_some, n_let]
    generalize hd : (if L < 16 then p_u C 84 (20 * L + 0) a else C) = D
    have d1 : ∀ x, x ≠ 84 → D x = C x := fun x hx => by
      rw [← hd]
      split
      · rw [p_u_ne hx]
      · rfl
    have d2 : ∀ k, k ≠ 20 * L + 0 → D 84 k = C 84 k := fun k hk => by
      rw [← hd]
      split
      · rw [p_u_nk hk]
      · rfl
    have d3 : L < 16 → D 84 (20 * L + 0) = a := fun hl => by rw [← hd, if_pos hl, p_u_self]
    have d38 : D 67 38 = nI L := by rw [d1 67 (by decide)]; exact c38
    rw [d38, nI_add]
    have e84 : ∀ k, k ≠ 20 * L + 0 → k ≠ 20 * L + 17 → D 84 k = X 84 k := fun k k1 k2 => by rw [d2 k k1, c2.1 84 (by decide) (by decide) (by decide), a2.1 84 (by decide) (by decide) (by decide), y2 k k2]
    refine ⟨p_u D 67 38 (nI (L + 1)), rfl, ⟨fun x x1 x2 x3 x4 => by rw [p_u_ne x1, d1 x x3, c2.1 x x1 x2 x4, a2.1 x x1 x2 x4, y1 x x3], fun k k1 k2 => by rw [p_u_ne (by decide), d1 68 (by decide), c2.2.1 k k1 k2, a2.2.1 k k1 k2, y1 68 (by decide)], fun k hk => by rw [p_u_nk (by omega), d1 67 (by decide), c2.2.2 k (by omega), a2.2.2 k (by omega), y1 67 (by decide)], fun k hk => by rw [p_u_ne (by decide), e84 k (by omega) (by omega)]⟩, ?_⟩
    have f67 : ∀ k, k ≠ 38 → p_u D 67 38 (nI (L + 1)) 67 k = C 67 k := fun k hk => by rw [p_u_nk hk, d1 67 (by decide)]
    have f68 : p_u D 67 38 (nI (L + 1)) 68 = C 68 := by rw [p_u_ne (by decide), d1 68 (by decide)]
    have f84 : p_u D 67 38 (nI (L + 1)) 84 = D 84 := p_u_ne (by decide)
    rcases c4 with ⟨g1, g2⟩ | ⟨g1, g2⟩
    · obtain ⟨cmt, c35, c9, c10⟩ := g2
      refine Or.inl ⟨?_, ?_, by rw [f67 35 (by decide)]; exact c35, by rw [f68, c9, a9, y1 68 (by decide)], by rw [f68, c10, a10, y1 68 (by decide)], p_u_self, fun hl => ⟨by rw [f84, d3 hl], by rw [f84, d2 _ (by omega), c2.1 84 (by decide) (by decide) (by decide), a2.1 84 (by decide) (by decide) (by decide), y3 hl], fun k k1 k2 => by rw [f84, e84 _ (by omega) (by omega)]⟩⟩
      · unfold q_lv
        rw [if_neg (fun h => h hg), if_neg (fun h => h g1)]
      · unfold q_mt at cmt ⊢
        rw [f67 29 (by decide), f67 30 (by decide), f67 31 (by decide), f67 32 (by decide), f67 33 (by decide), f67 34 (by decide)]
        exact cmt
    · refine Or.inr ⟨_, ?_, by rw [f67 35 (by decide)]; exact g2.1, by rw [f68]; exact g2.2.1, by rw [f68]; exact g2.2.2⟩
      unfold q_lv
      rw [if_neg (fun h => h hg), if_pos g1]
  · obtain ⟨S, s1, s2, s3, s4⟩ := m_stopsL (J := X) (B := B) (s := s) (i := e) hG hmt.2.1 h35
    have hlv : q_lv B s e = some e := by unfold q_lv; rw [if_pos hg]
    have hfin : ∃ M, some S = some M ∧ q_mlh X M L ∧ ((q_lv B s e = none ∧ q_mt M B s (q_te B s (q_te B s e)) ∧ M 67 35 = nI 0 ∧ M 68 9 = X 68 9 ∧ M 68 10 = X 68 10 ∧ M 67 38 = nI (L + 1) ∧ (L < 16 → M 84 (20 * L + 0) = a ∧ M 84 (20 * L + 17) = nI (q_wo B s e) ∧ ∀ k, 0 < k → k < 17 → M 84 (20 * L + k) = X 84 (20 * L + k))) ∨ (∃ p, q_lv B s e = some p ∧ q_mlbad M B s p)) := ⟨S, rfl, s2.h, Or.inr ⟨e, hlv, s4⟩⟩
    by_cases h3 : X 67 31 = nI 3
    · have htt3 : q_tt B s e = 3 := by
        rw [hmt.2.2.1] at h3
        exact (nI_eq (by omega) (by decide)).mp h3
      have hk1 := ((q_tt_3 he).mp htt3).1
      have h34 : X 67 34 = nI (q_wo B s e) := hmt.2.2.2.2.2 hk1
      rw [if_pos h3, h34, m_isInR (by omega) (by decide) (by decide), Option.bind_some, decide_eq_false (show ¬ (20 ≤ q_wo B s e ∧ q_wo B s e ≤ 21) by omega), bI_iff, s1, Option.bind_some]
      exact hfin
    · rw [if_neg h3, s1, Option.bind_some]
      exact hfin
theorem m_lawEnd_n (h35 : X 67 35 = nI 1) (a : Int32) : f_lwEnd zn N P X a = some X := by
  unfold f_lwEnd
  rw [h35, if_neg (show ¬ nI 1 = 0 by decide), m_stops_n h35, Option.bind_some]
theorem m_must_n (h35 : X 67 35 = nI 1) {b : Int32} : f_X12_must zn N X P 67 b = some X := by
  unfold f_X12_must
  rw [h35, if_neg (show ¬ nI 1 = 0 by decide), m_stops_n h35, Option.bind_some]
theorem m_lawLine (hX : q_MX N P J B s) (hi : i ≤ s) (hmt : q_mt J B s i) (h35 : J 67 35 = nI 0) (h38 : J 67 38 = nI L) (hL : L < 1000) (hw : q_w5 (J 68 9, J 68 10) i) (hn : 600 < zn) : ∃ M, f_X12_aLawLine zn N J P 67 = some M ∧ q_mlh J M L ∧ ((q_lb B s i = none ∧ q_mt M B s (q_lnx B s i) ∧ M 67 35 = nI 0 ∧ M 67 38 = nI (L + 1) ∧ (M 68 9, M 68 10) = q_fts B s i (q_fl B s i L (J 68 9, J 68 10)) (q_lk B s i) ∧ (L < 16 → q_lk B s i ≤ 4 → q_rM (fun k => M 84 (20 * L + k)) B s i)) ∨ (∃ p, q_lb B s i = some p ∧ q_mlbad M B s p)) := by
  have hG := hX.1
  have hs := hX.2.2.1
  have htp := q_tp_b (B := B) hi
  obtain ⟨Y, y1, y2, y3, y4, y5⟩ : ∃ Y, (if J 67 38 < nI 16 then some J else Option.bind (f_X12_also N J P 67 (nI 5) (J 67 30)) fun q3 => some q3) = some Y ∧ q_mlf J Y ∧ q_mt Y B s i ∧ Y 67 35 = nI 0 ∧ (Y 68 9, Y 68 10) = q_fl B s i L (J 68 9, J 68 10) := by
    unfold q_fl
    rw [h38]
    by_cases c : L < 16
    · rw [if_pos (nI_lt c (by omega)), if_pos c]
      exact ⟨J, rfl, q_mlf.rf, hmt, h35, rfl⟩
    · obtain ⟨Y, y1, y2, y3, y4, y5⟩ := m_also (N := N) (P := P) (x := nI 5) (y := nI (q_tp B s i)) hG h35
      have ha := q_alo_5 (q_w5_m hw htp.1) (show q_tp B s i < 1000 by omega)
      dsimp only at ha
      rw [ha] at y4 y5
      rw [if_neg (nI_nlt (by omega) (by omega)), if_neg c, hmt.2.1, y1, Option.bind_some]
      exact ⟨Y, rfl, ⟨fun x _ x2 _ => y2 x x2, y3, fun k _ => by rw [y2 67 (by decide)]⟩, hmt.to (y2 67 (by decide)), by rw [y2 67 (by decide)]; exact h35, by rw [y4, y5]⟩
  have hXY := y2.x hX
  have y38 : Y 67 38 = nI L := by rw [y2.2.2 38 (by omega)]; exact h38
  have hw5 : q_w5 (Y 68 9, Y 68 10) (q_tp B s i) := by rw [y5]; exact q_w5_fl hi hw
  have hline : f_X12_aLawLine zn N J P 67 = Option.bind (f_X12_takes zn N Y P 67 (nI 30)) fun q5 => Option.bind (α := Int32 × pI) ((if q5.1 = 0 then some (nI 0, q5.2) else Option.bind (p_it (B_X12_aLawLine_31 zn N P 67) zn (nI 0, nI 1, q5.2)) fun t9 => Option.bind (f_X12_must zn N t9.2 P 67 (nI 58)) fun q52 => some (t9.1, q52))) fun t7 => f_lwEnd zn N P t7.2 t7.1 := by
    unfold f_X12_aLawLine
    rw [y1, Option.bind_some]
    rfl
  by_cases h30 : q_wo B s i = 30
  · obtain ⟨T, t1, t2, t3, t4⟩ := m_takes_t hXY hi y3 y4 h30 (by decide) (by decide) hn
    have tf : q_mlf Y T := ⟨fun x x1 _ _ => t2 x x1, fun k _ _ => by rw [t2 68 (by decide)], fun k hk => t3 k (by omega)⟩
    have hXT := tf.x hXY
    obtain ⟨⟨za, E⟩, e1, e2, e3, e4⟩ := m_lawTests (L := L) hXT hi t4 (by rw [t3 35 (by omega)]; exact y4) (by rw [t3 38 (by omega)]; exact y38) hL (by rw [t2 68 (by decide)]; exact hw5) hn
    rw [t2 68 (by decide), y5] at e4
    dsimp only at e2 e3 e4
    have hE : q_mlh J E L := (y2.tr tf).h.tr e2
    rw [t1, Option.bind_some] at hline
    dsimp only at hline
    rw [if_neg (show ¬ nI 1 = 0 by decide), e1, Option.bind_some] at hline
    dsimp only at hline
    rcases e4 with ⟨p, f1, f2⟩ | ⟨f1, f2, f3, f4, f5, f6⟩
    · rw [m_must_n f2.1, Option.bind_some, Option.bind_some] at hline
      dsimp only at hline
      rw [m_lawEnd_n f2.1] at hline
      refine ⟨E, hline, hE, Or.inr ⟨p, ?_, f2⟩⟩
      unfold q_lb
      rw [if_pos h30, f1]
    · have hlp := (q_lp_b (B := B) hi).2
      have hXE := hE.x hX
      obtain ⟨G, g1, g2, g3, g4⟩ := m_mustL (b := 58) hXE hlp f3 f4 (by decide) (by decide) hn
      rw [g1, Option.bind_some, Option.bind_some] at hline
      dsimp only at hline
      have hG2 : q_mlh J G L := hE.tr g2.h
      have hlb : q_lb B s i = q_lu B s (q_lp B s i) := by
        unfold q_lb
        rw [if_pos h30, f1]
      have hle : q_le B s i = q_te B s (q_lp B s i) := by unfold q_le; rw [if_pos h30]
      have hlk : q_lk B s i = q_lc B s i + 1 := by unfold q_lk; rw [if_pos h30]
      rcases g4 with ⟨o1, o2⟩ | ⟨o1, o2⟩
      · obtain ⟨gmt, g35, g9, g10⟩ := o2
        have hXG := hG2.x hX
        have g38 : G 67 38 = nI L := by rw [g2.2.2 38 (by omega)]; exact e3
        obtain ⟨M, m1, m2, m3⟩ := m_lawEnd hXG (q_te_b (B := B) hlp).2.1 gmt g35 g38 hL za hn
        rw [m1] at hline
        refine ⟨M, hline, hG2.tr m2, ?_⟩
        have hlu : q_lu B s (q_lp B s i) = q_lv B s (q_te B s (q_lp B s i)) := by unfold q_lu; rw [if_neg (fun h => h o1)]
        rw [hlb, hlu]
        rcases m3 with ⟨n1, n2, n3, n4, n5, n6, n7⟩ | n1
        · left
          refine ⟨n1, ?_, n3, n6, ?_, fun hl h4 => ?_⟩
          · unfold q_lnx
            rw [hle]; exact n2
          · rw [n4, n5, g9, g10, hlk]; exact f5
          · obtain ⟨r1, r2, r3⟩ := n7 hl
            unfold q_rM
            rw [hle, hlk] at *
            refine ⟨by rw [← f2]; exact r1, r2, fun t ht => ?_⟩
            have hm := f6 hl t ht (by omega)
            have hk : ∀ k, k < 4 → M 84 (20 * L + (1 + 4 * t + k)) = E 84 (20 * L + (1 + 4 * t + k)) := fun k hk => by rw [r3 _ (by omega) (by omega), g2.1 84 (by decide) (by decide) (by decide)]
            exact ⟨(hk 0 (by decide)).trans hm.1, (hk 1 (by decide)).trans hm.2.1, fun h => ⟨(hk 2 (by decide)).trans (hm.2.2.1 h).1, (hk 3 (by decide)).trans (hm.2.2.1 h).2⟩, fun h => ⟨(hk 2 (by decide)).trans (hm.2.2.2 h).1, (hk 3 (by decide)).trans (hm.2.2.2 h).2⟩⟩
        · exact Or.inr n1
      · rw [m_lawEnd_n o2.1] at hline
        refine ⟨G, hline, hG2, Or.inr ⟨_, ?_, o2⟩⟩
        rw [hlb]
        unfold q_lu
        rw [if_pos o1]
  · have t1 := m_takes_f (N := N) (P := P) (zn := zn) (w := 30) hi y3 h30 (by decide)
    rw [t1, Option.bind_some] at hline
    dsimp only at hline
    rw [if_pos (show nI 0 = 0 from rfl), Option.bind_some] at hline
    dsimp only at hline
    obtain ⟨M, m1, m2, m3⟩ := m_lawEnd hXY hi y3 y4 y38 hL (nI 0) hn
    rw [m1] at hline
    have hlk : q_lk B s i = 0 := by unfold q_lk; rw [if_neg h30]
    have hle : q_le B s i = i := by unfold q_le; rw [if_neg h30]
    have hlb : q_lb B s i = q_lv B s i := by unfold q_lb; rw [if_neg h30]
    refine ⟨M, hline, y2.h.tr m2, ?_⟩
    rw [hlb]
    rcases m3 with ⟨n1, n2, n3, n4, n5, n6, n7⟩ | n1
    · left
      refine ⟨n1, ?_, n3, n6, ?_, fun hl h4 => ?_⟩
      · unfold q_lnx
        rw [hle]; exact n2
      · rw [n4, n5, hlk]; exact y5
      · obtain ⟨r1, r2, r3⟩ := n7 hl
        unfold q_rM
        rw [hle, hlk]
        exact ⟨r1, r2, fun t ht => absurd ht (by omega)⟩
    · exact Or.inr n1
end Law12
