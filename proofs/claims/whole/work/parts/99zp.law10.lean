/-! the law: the reference reads a test -/
def q_tcM (f : Nat → Int32) (B : Nat → Nat) (s i : Nat) : Prop := f 0 = bI (q_nt B s i) ∧ f 1 = nI (q_wo B s (q_ab B s i)) ∧ (q_wo B s (q_ab B s i) = 10 → f 2 = nI 61 ∧ f 3 = nI 1) ∧ (q_wo B s (q_ab B s i) ≠ 10 → f 2 = nI (q_sn B s (q_te B s (q_ab B s i))) ∧ f 3 = nI (q_vl B s (q_te B s (q_te B s (q_ab B s i)))))
/-- what a step of the reference's reading leaves -/
def q_mlf (J M : pI) : Prop := (∀ x, x ≠ 67 → x ≠ 68 → x ≠ 85 → M x = J x) ∧ (∀ k, k ≠ 9 → k ≠ 10 → M 68 k = J 68 k) ∧ ∀ k, k < 29 ∨ 35 < k → M 67 k = J 67 k
def q_mlbad (M : pI) (B : Nat → Nat) (s p : Nat) : Prop := M 67 35 = nI 1 ∧ M 68 9 = nI 1 ∧ M 68 10 = nI (q_tp B s p)
def q_mlok (J M : pI) (B : Nat → Nat) (s i : Nat) : Prop := q_mt M B s i ∧ M 67 35 = nI 0 ∧ M 68 9 = J 68 9 ∧ M 68 10 = J 68 10
section Law10
variable {N : pN} {P : pR} {J M : pI} {B : Nat → Nat} {s i zn : Nat}
theorem q_mlf.rf : q_mlf J J := ⟨fun _ _ _ _ => rfl, fun _ _ _ => rfl, fun _ _ => rfl⟩
theorem q_mlf.tr {M2 : pI} (h1 : q_mlf J M) (h2 : q_mlf M M2) : q_mlf J M2 := ⟨fun x x1 x2 x3 => by rw [h2.1 x x1 x2 x3, h1.1 x x1 x2 x3], fun k x1 x2 => by rw [h2.2.1 k x1 x2, h1.2.1 k x1 x2], fun k hk => by rw [h2.2.2 k hk, h1.2.2 k hk]⟩
theorem q_mlf.x (h : q_mlf J M) (hX : q_MX N P J B s) : q_MX N P M B s := hX.to (h.2.2 28 (by omega)) (fun j a b => h.2.1 j (by omega) (by omega))
theorem m_stopsL (hG : GW N P) (h30 : J 67 30 = nI (q_tp B s i)) (h35 : J 67 35 = nI 0) : ∃ M, f_X12_stops N J P 67 = some M ∧ q_mlf J M ∧ M 85 = J 85 ∧ q_mlbad M B s i := by
  refine ⟨_, m_stops hG h35, ⟨fun x x1 x2 x3 => by rw [p_u_ne x2, p_u_ne x2, p_u_ne x1], fun k k1 k2 => by rw [p_u_nk k2, p_u_nk k1, p_u_ne (by decide)], fun k hk => by rw [p_u_ne (by decide), p_u_ne (by decide), p_u_nk (by omega)]⟩, by rw [p_u_ne (by decide), p_u_ne (by decide), p_u_ne (by decide)], by rw [p_u_ne (by decide), p_u_ne (by decide), p_u_self], by rw [p_u_nk (by decide), p_u_self], by rw [p_u_self, h30]⟩
theorem m_advL (hX : q_MX N P J B s) (hi : i ≤ s) (h29 : J 67 29 = nI i) (h35 : J 67 35 = nI 0) (hn : 600 < zn) : ∃ M, f_X12_advance zn N J P 67 = some M ∧ q_mlf J M ∧ M 85 = J 85 ∧ q_mlok J M B s i := by
  obtain ⟨M, m1, m2, m3, m4⟩ := m_adv hX hi h29 hn
  exact ⟨M, m1, ⟨fun x x1 x2 x3 => m2 x x1, fun k _ _ => by rw [m2 68 (by decide)], fun k hk => m3 k (by omega)⟩, m2 85 (by decide), m4, by rw [m3 35 (by omega)]; exact h35, by rw [m2 68 (by decide)], by rw [m2 68 (by decide)]⟩
theorem m_mustL (hX : q_MX N P J B s) (hi : i ≤ s) (hmt : q_mt J B s i) (h35 : J 67 35 = nI 0) {b : Nat} (hb : 0 < b) (hb2 : b < 256) (hn : 600 < zn) : ∃ M, f_X12_must zn N J P 67 (nI b) = some M ∧ q_mlf J M ∧ M 85 = J 85 ∧ ((q_sn B s i = b ∧ q_mlok J M B s (q_te B s i)) ∨ (¬ q_sn B s i = b ∧ q_mlbad M B s i)) := by
  have hG := hX.1
  obtain ⟨S, s1, s2, s3, s4⟩ := m_stopsL (J := J) (B := B) (s := s) (i := i) hG hmt.2.1 h35
  have htt := q_tt_b (B := B) (s := s) (i := i)
  unfold f_X12_must
  rw [if_pos (show J 67 35 = 0 from h35)]
  by_cases hk : q_tk B s i = 3
  · have hsn : q_sn B s i = B (q_tp B s i) := by unfold q_sn; rw [if_pos hk]
    have hB := (hX.2.2.2 (q_tp B s i) (q_tk_k hi (by omega)).1).2
    have h33 := hmt.2.2.2.2.1 hk
    rw [if_pos (show J 67 31 = nI 2 by rw [hmt.2.2.1, (q_tt_2 hi).mpr hk])]
    by_cases hs : q_sn B s i = b
    · obtain ⟨M, m1, m2, m3, m4⟩ := m_advL hX (q_te_b (B := B) hi).2.1 hmt.1 h35 hn
      rw [if_pos (show J 67 33 = nI b by rw [h33, ← hsn, hs]), m1, Option.bind_some]
      exact ⟨M, rfl, m2, m3, Or.inl ⟨hs, m4⟩⟩
    · rw [if_neg (fun e => by rw [h33, ← hsn] at e; exact hs ((nI_eq (by omega) (by omega)).mp e)), s1, Option.bind_some]
      exact ⟨S, rfl, s2, s3, Or.inr ⟨hs, s4⟩⟩
  · have hsn : q_sn B s i = 0 := by unfold q_sn; rw [if_neg hk]
    rw [if_neg (fun e => by rw [hmt.2.2.1] at e; exact hk ((q_tt_2 hi).mp ((nI_eq (by omega) (by omega)).mp e))), s1, Option.bind_some]
    exact ⟨S, rfl, s2, s3, Or.inr ⟨by omega, s4⟩⟩
theorem m_numberedL (hX : q_MX N P J B s) (hi : i ≤ s) (hmt : q_mt J B s i) (h35 : J 67 35 = nI 0) (hn : 600 < zn) : ∃ v M, f_X12_numbered zn N J P 67 = some (v, M) ∧ q_mlf J M ∧ M 85 = J 85 ∧ ((q_isn B s i = true ∧ v = nI (q_vl B s i) ∧ q_mlok J M B s (q_te B s i)) ∨ (q_isn B s i = false ∧ q_mlbad M B s i)) := by
  have hG := hX.1
  obtain ⟨S, s1, s2, s3, s4⟩ := m_stopsL (J := J) (B := B) (s := s) (i := i) hG hmt.2.1 h35
  have htt := q_tt_b (B := B) (s := s) (i := i)
  unfold f_X12_numbered
  rw [if_pos (show J 67 35 = 0 from h35)]
  cases hq : q_isn B s i with
  | true =>
    have h2 := (q_isn_2 hq).1
    obtain ⟨M, m1, m2, m3, m4⟩ := m_advL hX (q_te_b (B := B) hi).2.1 hmt.1 h35 hn
    rw [if_pos (show J 67 31 = nI 1 by rw [hmt.2.2.1, (q_tt_1 hi).mpr hq]), m1, Option.bind_some]
    exact ⟨_, M, rfl, m2, m3, Or.inl ⟨rfl, by rw [hmt.2.2.2.1 h2, (q_isn_v hi hq).2], m4⟩⟩
  | false =>
    rw [if_neg (fun e => by
      rw [hmt.2.2.1] at e
      have := (q_tt_1 hi).mp ((nI_eq (by omega) (by omega)).mp e)
      rw [hq] at this; cases this), s1, Option.bind_some]
    exact ⟨_, S, rfl, s2, s3, Or.inr ⟨rfl, s4⟩⟩
theorem m_aTest (hX : q_MX N P J B s) (hi : i ≤ s) (hmt : q_mt J B s i) (h35 : J 67 35 = nI 0) (hn : 600 < zn) : ∃ M, f_X12_aTest zn N J P 67 = some M ∧ q_mlf J M ∧ ((q_tbad B s i = none ∧ q_mlok J M B s (q_tnx B s i) ∧ q_tcM (M 85) B s i) ∨ (∃ p, q_tbad B s i = some p ∧ q_mlbad M B s p)) := by
  have hG := hX.1
  have ib : ∀ j, j < 4 → p_ib N 85 (nI j) = true := fun j hj => n_ib (gn_85 hG) hj (by decide)
  have k0 : (nI 0).toNatClampNeg = 0 := by decide
  have k1 : (nI 1).toNatClampNeg = 1 := by decide
  have k2 : (nI 2).toNatClampNeg = 2 := by decide
  have k3 : (nI 3).toNatClampNeg = 3 := by decide
  obtain ⟨Y, y1, y2, y3, y4⟩ : ∃ Y, f_X12_takes zn N J P 67 (nI 32) = some (bI (q_nt B s i), Y) ∧ q_mlf J Y ∧ Y 85 = J 85 ∧ q_mlok J Y B s (q_ab B s i) := by
    unfold q_ab
    by_cases hw : q_wo B s i = 32
    · have hq : q_nt B s i = true := decide_eq_true hw
      obtain ⟨M, m1, m2, m3, m4⟩ := m_takes_t hX hi hmt h35 hw (by decide) (by decide) hn
      rw [hq, if_pos rfl]
      exact ⟨M, m1, ⟨fun x x1 x2 x3 => m2 x x1, fun k _ _ => by rw [m2 68 (by decide)], fun k hk => m3 k (by omega)⟩, m2 85 (by decide), m4, by rw [m3 35 (by omega)]; exact h35, by rw [m2 68 (by decide)], by rw [m2 68 (by decide)]⟩
    · have hq : q_nt B s i = false := decide_eq_false hw
      rw [hq, if_neg (by decide)]
      exact ⟨J, m_takes_f hi hmt hw (by decide), q_mlf.rf, rfl, hmt, h35, rfl, rfl⟩
  have hab := (q_ab_b (B := B) hi).2
  have hte := (q_te_b (B := B) hab).2.1
  have ht6 : (if bI (q_nt B s i) = 0 then nI 0 else nI 1) = bI (q_nt B s i) := by cases q_nt B s i <;> rfl
  have e34 : p_u Y 85 0 (bI (q_nt B s i)) 67 34 = Y 67 34 := by rw [p_u_ne (by decide)]
  generalize hz : p_u (p_u (p_u (p_u Y 85 0 (bI (q_nt B s i))) 85 1 (Y 67 34)) 85 2 (nI 61)) 85 3 (nI 1) = X
  have x1 : ∀ x, x ≠ 85 → X x = Y x := fun x hx => by rw [← hz, p_u_ne hx, p_u_ne hx, p_u_ne hx, p_u_ne hx]
  have c0 : X 85 0 = bI (q_nt B s i) := by rw [← hz, p_u_nk (by decide), p_u_nk (by decide), p_u_nk (by decide), p_u_self]
  have c1 : X 85 1 = Y 67 34 := by rw [← hz, p_u_nk (by decide), p_u_nk (by decide), p_u_self]
  have c2 : X 85 2 = nI 61 := by rw [← hz, p_u_nk (by decide), p_u_self]
  have c3 : X 85 3 = nI 1 := by rw [← hz, p_u_self]
  obtain ⟨ymt, y35, y9, y10⟩ := y4
  have xf : q_mlf J X := ⟨fun x a1 a2 a3 => by rw [x1 x a3, y2.1 x a1 a2 a3], fun k a1 a2 => by rw [x1 68 (by decide), y2.2.1 k a1 a2], fun k hk => by rw [x1 67 (by decide), y2.2.2 k hk]⟩
  have xmt : q_mt X B s (q_ab B s i) := by
    unfold q_mt at ymt ⊢
    rw [x1 67 (by decide)]; exact ymt
  have x35 : X 67 35 = nI 0 := by rw [x1 67 (by decide)]; exact y35
  have x9 : X 68 9 = J 68 9 := by rw [x1 68 (by decide)]; exact y9
  have x10 : X 68 10 = J 68 10 := by rw [x1 68 (by decide)]; exact y10
  have hXX := xf.x hX
  have hhead : f_X12_aTest zn N J P 67 = (if X 67 31 = nI 3 then Option.bind (f_X12_isIn (X 67 34) (nI 10) (nI 16)) fun q33 => (if q33 = 0 then Option.bind (f_X12_stops N X P 67) fun q63 => some q63 else Option.bind (f_X12_advance zn N X P 67) fun q35 => (if q35 85 1 = nI 10 then some q35 else p_let (p_u q35 85 2 (q35 67 33)) fun I45 => (if I45 67 31 = nI 2 then (if I45 67 33 = nI 58 then Option.bind (f_X12_stops N I45 P 67) fun q49 => some q49 else (if I45 67 33 = nI 59 then Option.bind (f_X12_stops N I45 P 67) fun q61 => some q61 else Option.bind (f_X12_advance zn N I45 P 67) fun q51 => Option.bind (f_X12_numbered zn N q51 P 67) fun q56 => p_let (p_u q56.2 85 3 q56.1) fun I59 => some I59)) else Option.bind (f_X12_stops N I45 P 67) fun q47 => some q47))) else Option.bind (f_X12_stops N X P 67) fun q31 => some q31) := by
    unfold f_X12_aTest
    simp only [gp_67_40 hG, Option.bind_some, y1, n_let, ht6, n_ck (ib 0 (by decide)), n_ck (ib 1 (by decide)), n_ck (ib 2 (by decide)), n_ck (ib 3 (by decide)), k0, k1, k2, k3, e34, hz, if_pos (show X 67 35 = 0 from x35)]
  have hbad : (∃ M, f_X12_stops N X P 67 = some M ∧ q_mlf J M ∧ q_mlbad M B s (q_ab B s i)) := by
    obtain ⟨S, s1, s2, s3, s4⟩ := m_stopsL (J := X) (B := B) (s := s) (i := q_ab B s i) hG xmt.2.1 x35
    exact ⟨S, s1, xf.tr s2, s4⟩
  have htt := q_tt_b (B := B) (s := s) (i := q_ab B s i)
  have hwl := q_wo_lt (B := B) (s := s) (i := q_ab B s i)
  by_cases hg : 10 ≤ q_wo B s (q_ab B s i) ∧ q_wo B s (q_ab B s i) ≤ 16
  · have hk1 := q_wo_1 (B := B) (s := s) (i := q_ab B s i) (by omega)
    have h34 : X 67 34 = nI (q_wo B s (q_ab B s i)) := xmt.2.2.2.2.2 hk1
    have cw : X 85 1 = nI (q_wo B s (q_ab B s i)) := by rw [c1, ← h34, x1 67 (by decide)]
    obtain ⟨A, a1, a2, a3, a4⟩ := m_advL hXX hte xmt.1 x35 hn
    obtain ⟨amt, a35, a9, a10⟩ := a4
    rw [if_pos (show X 67 31 = nI 3 by rw [xmt.2.2.1, (q_tt_3 hab).mpr ⟨hk1, by omega⟩]), h34, m_isInR (by omega) (by decide) (by decide), Option.bind_some, decide_eq_true hg, bI_ift, a1, Option.bind_some] at hhead
    by_cases h10 : q_wo B s (q_ab B s i) = 10
    · rw [if_pos (show A 85 1 = nI 10 by rw [a3, cw, h10])] at hhead
      refine ⟨A, hhead, xf.tr a2, Or.inl ⟨?_, ⟨?_, a35, by rw [a9]; exact x9, by rw [a10]; exact x10⟩, ?_⟩⟩
      · unfold q_tbad
        rw [if_neg (fun h => h hg), if_pos h10]
      · unfold q_tnx
        rw [if_pos h10]; exact amt
      · rw [a3]
        exact ⟨c0, cw, fun _ => ⟨c2, c3⟩, fun h => absurd h10 h⟩
    · rw [if_neg (show ¬ A 85 1 = nI 10 from fun e => by rw [a3, cw] at e; exact h10 ((nI_eq (by omega) (by omega)).mp e)), n_let] at hhead
      generalize hv : A 67 33 = v at hhead
      have b67 : p_u A 85 2 v 67 = A 67 := p_u_ne (by decide)
      generalize hc : p_u A 85 2 v = C at hhead b67
      have d1 : ∀ x, x ≠ 85 → C x = A x := fun x hx => by rw [← hc, p_u_ne hx]
      have f0 : C 85 0 = bI (q_nt B s i) := by rw [← hc, p_u_nk (by decide), a3]; exact c0
      have f1 : C 85 1 = nI (q_wo B s (q_ab B s i)) := by rw [← hc, p_u_nk (by decide), a3]; exact cw
      have f2 : C 85 2 = v := by rw [← hc, p_u_self]
      have cmt : q_mt C B s (q_te B s (q_ab B s i)) := by
        unfold q_mt at amt ⊢
        rw [b67]; exact amt
      have c35 : C 67 35 = nI 0 := by rw [b67]; exact a35
      have cf : q_mlf J C := (xf.tr a2).tr ⟨fun x _ _ a3 => d1 x a3, fun k _ _ => by rw [d1 68 (by decide)], fun k _ => by rw [b67]⟩
      have c9 : C 68 9 = J 68 9 := by rw [d1 68 (by decide), a9]; exact x9
      have c10 : C 68 10 = J 68 10 := by rw [d1 68 (by decide), a10]; exact x10
      have hXC := cf.x hX
      obtain ⟨S, s1, s2, s3, s4⟩ := m_stopsL (J := C) (B := B) (s := s) (i := q_te B s (q_ab B s i)) hG cmt.2.1 c35
      have htt2 := q_tt_b (B := B) (s := s) (i := q_te B s (q_ab B s i))
      have hstop : q_sgn B s (q_te B s (q_ab B s i)) = false → f_X12_aTest zn N J P 67 = some S → ∃ M, f_X12_aTest zn N J P 67 = some M ∧ q_mlf J M ∧ ((q_tbad B s i = none ∧ q_mlok J M B s (q_tnx B s i) ∧ q_tcM (M 85) B s i) ∨ (∃ p, q_tbad B s i = some p ∧ q_mlbad M B s p)) := fun hq he => by
        refine ⟨S, he, cf.tr s2, Or.inr ⟨_, ?_, s4⟩⟩
        unfold q_tbad
        rw [if_neg (fun h => h hg), if_neg h10, if_pos hq]
      by_cases hk3 : q_tk B s (q_te B s (q_ab B s i)) = 3
      · have hsn : q_sn B s (q_te B s (q_ab B s i)) = B (q_tp B s (q_te B s (q_ab B s i))) := by unfold q_sn; rw [if_pos hk3]
        have hkd := q_kd_b (B (q_tp B s (q_te B s (q_ab B s i))))
        have hk5 := (q_tk_k hte (by omega : q_tk B s (q_te B s (q_ab B s i)) ≠ 0)).2
        have hB := hkd.2.2.2.2 (by omega)
        have h33 : C 67 33 = nI (q_sn B s (q_te B s (q_ab B s i))) := by rw [cmt.2.2.2.2.1 hk3, hsn]
        have hv2 : v = nI (q_sn B s (q_te B s (q_ab B s i))) := by rw [← hv, ← b67, h33]
        rw [if_pos (show C 67 31 = nI 2 by rw [cmt.2.2.1, (q_tt_2 hte).mpr hk3]), h33] at hhead
        by_cases e58 : q_sn B s (q_te B s (q_ab B s i)) = 58
        · rw [if_pos (show nI (q_sn B s (q_te B s (q_ab B s i))) = nI 58 by rw [e58]), s1, Option.bind_some] at hhead
          exact hstop (decide_eq_false (by omega)) hhead
        · rw [if_neg (show ¬ nI (q_sn B s (q_te B s (q_ab B s i))) = nI 58 from fun e => e58 ((nI_eq (by omega) (by omega)).mp e))] at hhead
          by_cases e59 : q_sn B s (q_te B s (q_ab B s i)) = 59
          · rw [if_pos (show nI (q_sn B s (q_te B s (q_ab B s i))) = nI 59 by rw [e59]), s1, Option.bind_some] at hhead
            exact hstop (decide_eq_false (by omega)) hhead
          · rw [if_neg (show ¬ nI (q_sn B s (q_te B s (q_ab B s i))) = nI 59 from fun e => e59 ((nI_eq (by omega) (by omega)).mp e))] at hhead
            have hsg : q_sgn B s (q_te B s (q_ab B s i)) = true := decide_eq_true (by omega)
            have hte2 := (q_te_b (B := B) hte).2.1
            obtain ⟨D, g1, g2, g3, g4⟩ := m_advL hXC hte2 cmt.1 c35 hn
            obtain ⟨dmt, d35, d9, d10⟩ := g4
            have hXD := g2.x hXC
            obtain ⟨u, E, n1, n2, n3, n4⟩ := m_numberedL hXD hte2 dmt d35 hn
            rw [g1, Option.bind_some, n1, Option.bind_some, n_let] at hhead
            dsimp only at hhead
            have e67 : p_u E 85 3 u 67 = E 67 := p_u_ne (by decide)
            have e68 : p_u E 85 3 u 68 = E 68 := p_u_ne (by decide)
            have ef : q_mlf J (p_u E 85 3 u) := ((cf.tr g2).tr n2).tr ⟨fun x _ _ a3 => p_u_ne a3, fun k _ _ => by rw [e68], fun k _ => by rw [e67]⟩
            refine ⟨_, hhead, ef, ?_⟩
            rcases n4 with ⟨q1, q2, q3⟩ | ⟨q1, q2⟩
            · obtain ⟨emt, e35, e9, e10⟩ := q3
              refine Or.inl ⟨?_, ⟨?_, by rw [e67]; exact e35, by rw [e68, e9, d9]; exact c9, by rw [e68, e10, d10]; exact c10⟩, ?_⟩
              · unfold q_tbad
                rw [if_neg (fun h => h hg), if_neg h10, if_neg (by rw [hsg]; decide), if_neg (by rw [q1]; decide)]
              · unfold q_tnx
                rw [if_neg h10]
                unfold q_mt at emt ⊢
                rw [e67]; exact emt
              · refine ⟨by rw [p_u_nk (by decide), n3, g3]; exact f0, by rw [p_u_nk (by decide), n3, g3]; exact f1, fun h => absurd h h10, fun _ => ⟨by rw [p_u_nk (by decide), n3, g3, f2, hv2], by rw [p_u_self, q2]⟩⟩
            · refine Or.inr ⟨_, ?_, by rw [e67]; exact q2.1, by rw [e68]; exact q2.2.1, by rw [e68]; exact q2.2.2⟩
              unfold q_tbad
              rw [if_neg (fun h => h hg), if_neg h10, if_neg (by rw [hsg]; decide), if_pos q1]
      · rw [if_neg (fun e => by rw [cmt.2.2.1] at e; exact hk3 ((q_tt_2 hte).mp ((nI_eq (by omega) (by omega)).mp e))), s1, Option.bind_some] at hhead
        have hsn : q_sn B s (q_te B s (q_ab B s i)) = 0 := by unfold q_sn; rw [if_neg hk3]
        exact hstop (decide_eq_false (by omega)) hhead
  · obtain ⟨S, s1, s2, s3⟩ := hbad
    have hfin : f_X12_aTest zn N J P 67 = some S → ∃ M, f_X12_aTest zn N J P 67 = some M ∧ q_mlf J M ∧ ((q_tbad B s i = none ∧ q_mlok J M B s (q_tnx B s i) ∧ q_tcM (M 85) B s i) ∨ (∃ p, q_tbad B s i = some p ∧ q_mlbad M B s p)) := fun he => by
      refine ⟨S, he, s2, Or.inr ⟨_, ?_, s3⟩⟩
      unfold q_tbad
      rw [if_pos hg]
    by_cases h3 : X 67 31 = nI 3
    · have htt3 : q_tt B s (q_ab B s i) = 3 := by
        rw [xmt.2.2.1] at h3
        exact (nI_eq (by omega) (by decide)).mp h3
      have hk1 := ((q_tt_3 hab).mp htt3).1
      have h34 : X 67 34 = nI (q_wo B s (q_ab B s i)) := xmt.2.2.2.2.2 hk1
      rw [if_pos h3, h34, m_isInR (by omega) (by decide) (by decide), Option.bind_some, decide_eq_false hg, bI_iff, s1, Option.bind_some] at hhead
      exact hfin hhead
    · rw [if_neg h3, s1, Option.bind_some] at hhead
      exact hfin hhead
end Law10
