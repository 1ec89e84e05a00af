/-! the reference's tokens -/
theorem m_isLetter : ∀ b, b < 256 → f_X12_isLetter (nI b) = some (bI (decide (q_kd b = 1))) := by decide +kernel
theorem m_isDigit : ∀ b, b < 256 → f_X12_isDigit (nI b) = some (bI (decide (q_kd b = 2))) := by decide +kernel
theorem m_isSignByte : ∀ b, b < 256 → f_X12_isSignByte (nI b) = some (bI (decide (q_kd b = 3))) := by decide +kernel
theorem m_isLetter_n : f_X12_isLetter (-1) = some (bI false) := by decide +kernel
theorem m_isDigit_n : f_X12_isDigit (-1) = some (bI false) := by decide +kernel
def q_MX (N : pN) (P : pR) (I : pI) (B : Nat → Nat) (s : Nat) : Prop := GW N P ∧ I 67 28 = nI s ∧ s ≤ 500 ∧ ∀ j, j < s → I 68 (660 + j) = nI (B j) ∧ B j ≤ 255
def q_tt (B : Nat → Nat) (s i : Nat) : Nat := if q_tk B s i = 0 then 0 else if q_tk B s i = 1 then (if q_wo B s i = 99 then 4 else 3) else if q_tk B s i = 2 then (if q_te B s i - q_tp B s i ≤ 4 then 1 else 4) else if q_tk B s i = 3 then 2 else 4
def q_mt (J : pI) (B : Nat → Nat) (s i : Nat) : Prop := J 67 29 = nI (q_te B s i) ∧ J 67 30 = nI (q_tp B s i) ∧ J 67 31 = nI (q_tt B s i) ∧ (q_tk B s i = 2 → J 67 32 = q_nm B (q_tp B s i) (min (q_te B s i - q_tp B s i) 4)) ∧ (q_tk B s i = 3 → J 67 33 = nI (B (q_tp B s i))) ∧ (q_tk B s i = 1 → J 67 34 = nI (q_wo B s i))
section MTok
variable {N : pN} {P : pR} {I J : pI} {B : Nat → Nat} {s i j zn : Nat}
theorem q_MX.to (h : q_MX N P I B s) (e1 : J 67 28 = I 67 28) (e2 : ∀ j, 660 ≤ j → j < 1160 → J 68 j = I 68 j) : q_MX N P J B s :=
  ⟨h.1, by rw [e1]; exact h.2.1, h.2.2.1, fun j hj => by have := h.2.2.1; rw [e2 _ (by omega) (by omega)]; exact h.2.2.2 j hj⟩
theorem m_byteAt (h : q_MX N P I B s) (hj : j < s) : f_X12_byteAt N I P 67 (nI j) = some (nI (B j)) := by
  obtain ⟨hG, h1, h2, h3⟩ := h
  unfold f_X12_byteAt
  rw [h1, if_neg (nI_ge hj (by omega)), gp_67_0 hG, Option.bind_some, nI_add, n_ck (ib_68 hG (by omega)), nI_clamp (by omega), (h3 j hj).1]
theorem m_byteAt_n (h : q_MX N P I B s) (hj : s ≤ j) (hj2 : j < 1000) : f_X12_byteAt N I P 67 (nI j) = some (-1) := by
  obtain ⟨hG, h1, h2, h3⟩ := h
  unfold f_X12_byteAt
  rw [h1, if_pos (nI_le hj (by omega))]
theorem q_wo_long (hi : i ≤ s) (h1 : q_tk B s i = 1) (h7 : 7 ≤ q_te B s i - q_tp B s i) : q_wo B s i = 99 := by
  have h : ∀ j, j < 16 → q_wo B s i ≠ q_wt.getD j 0 := fun j hj e => by
    have := ((q_wo_iff hi hj h1).mp e).1
    have := (q_tx_6 j hj).1
    omega
  have g0 : q_wo B s i ≠ 1 := h 0 (by decide)
  have g1 : q_wo B s i ≠ 2 := h 1 (by decide)
  have g2 : q_wo B s i ≠ 3 := h 2 (by decide)
  have g3 : q_wo B s i ≠ 4 := h 3 (by decide)
  have g4 : q_wo B s i ≠ 30 := h 4 (by decide)
  have g5 : q_wo B s i ≠ 32 := h 5 (by decide)
  have g6 : q_wo B s i ≠ 10 := h 6 (by decide)
  have g7 : q_wo B s i ≠ 11 := h 7 (by decide)
  have g8 : q_wo B s i ≠ 12 := h 8 (by decide)
  have g9 : q_wo B s i ≠ 13 := h 9 (by decide)
  have g10 : q_wo B s i ≠ 14 := h 10 (by decide)
  have g11 : q_wo B s i ≠ 15 := h 11 (by decide)
  have g12 : q_wo B s i ≠ 16 := h 12 (by decide)
  have g13 : q_wo B s i ≠ 31 := h 13 (by decide)
  have g14 : q_wo B s i ≠ 20 := h 14 (by decide)
  have g15 : q_wo B s i ≠ 21 := h 15 (by decide)
  have ha : q_wo B s i = q_wdn (q_nc B (q_tp B s i) (q_te B s i - q_tp B s i)) := by
    unfold q_wo
    rw [if_pos h1]
  have := q_wd_all (q_nc B (q_tp B s i) (q_te B s i - q_tp B s i))
  omega
theorem m_adv (hX : q_MX N P I B s) (hi : i ≤ s) (h3 : I 67 29 = nI i) (hn : 600 < zn) : ∃ J, f_X12_advance zn N I P 67 = some J ∧ (∀ x, x ≠ 67 → J x = I x) ∧ (∀ k, k < 29 ∨ 34 < k → J 67 k = I 67 k) ∧ q_mt J B s i := by
  obtain ⟨hG, h28, hs, hb⟩ := id hX
  have b0 := q_tp_b (B := B) hi
  have bte := q_te_b (B := B) hi
  have hk4 := q_tk_b (B := B) hi
  have hloop := p_loopI (B := B_X12_advance_0 N P 67) (zJ := fun zm (zc : pI) => (∀ x, x ≠ 67 → zc x = I x) ∧ (∀ k, k ≠ 29 → zc 67 k = I 67 k) ∧ zc 67 29 = nI (i + zm) ∧ i + zm ≤ s ∧ q_sc (fun j => q_bl (B j)) s (501 - zm) (i + zm) = q_tp B s i) (zE := fun (zt : pI) => (∀ x, x ≠ 67 → zt x = I x) ∧ (∀ k, k ≠ 29 → zt 67 k = I 67 k) ∧ zt 67 29 = nI (q_tp B s i)) (zm := 501) (zn := zn) (by omega) ?_ ?_ I ⟨fun x hx => rfl, fun k hk => rfl, by rw [h3]; rfl, hi, rfl⟩
  · obtain ⟨J1, l1, l2, l3, l4⟩ := hloop
    generalize hz : p_u J1 67 30 (nI (q_tp B s i)) = J2
    have z1 : ∀ x, x ≠ 67 → J2 x = I x := fun x hx => by rw [← hz, p_u_ne hx, l2 x hx]
    have z2 : ∀ k, k ≠ 29 → k ≠ 30 → J2 67 k = I 67 k := fun k h1 h2 => by rw [← hz, p_u_nk h2, l3 k h1]
    have z3 : J2 67 29 = nI (q_tp B s i) := by rw [← hz, p_u_nk (by decide), l4]
    have z4 : J2 67 30 = nI (q_tp B s i) := by rw [← hz, p_u_self]
    have hX2 : q_MX N P J2 B s := hX.to (z2 28 (by decide) (by decide)) (fun j _ _ => by rw [z1 68 (by decide)])
    by_cases hc : q_tp B s i < s
    · have hk0 : q_tk B s i ≠ 0 := fun e => by have := (q_tk_0 (B := B) hi).mp e; omega
      obtain ⟨_, k2⟩ := q_tk_k hi hk0
      have hbb := (hb _ hc).2
      have hby := m_byteAt hX2 hc
      have hle : (0 : Int32) ≤ nI (B (q_tp B s i)) := nI_pos' (by omega)
      have hL := m_isLetter (B (q_tp B s i)) (by omega)
      have hD := m_isDigit (B (q_tp B s i)) (by omega)
      have hS := m_isSignByte (B (q_tp B s i)) (by omega)
      rw [k2] at hL hD hS
      by_cases h1 : q_tk B s i = 1
      · rw [decide_eq_true h1] at hL
        have hte : q_te B s i = q_sc (fun j => decide (q_kd (B j) = q_tk B s i)) s 501 (q_tp B s i + 1) := by
          unfold q_te
          rw [if_neg hk0, if_pos (Or.inl h1)]
        have hl2 := p_loopI (B := B_X12_advance_77 N P 67) (zJ := fun zm (zc : Int64 × pI) => zc.1 = lN (q_nc B (q_tp B s i) (min zm 7)) ∧ (∀ x, x ≠ 67 → zc.2 x = I x) ∧ (∀ k, k ≠ 29 → zc.2 67 k = J2 67 k) ∧ zc.2 67 29 = nI (q_tp B s i + zm) ∧ q_tp B s i + zm ≤ s ∧ q_sc (fun j => decide (q_kd (B j) = q_tk B s i)) s (502 - zm) (q_tp B s i + zm) = q_te B s i) (zE := fun (zt : Int64 × pI) => zt.1 = lN (q_nc B (q_tp B s i) (min (q_te B s i - q_tp B s i) 7)) ∧ (∀ x, x ≠ 67 → zt.2 x = I x) ∧ (∀ k, k ≠ 29 → zt.2 67 k = J2 67 k) ∧ zt.2 67 29 = nI (q_te B s i)) (zm := 502) (zn := zn) (by omega) ?_ ?_ (0, J2) ⟨rfl, z1, fun k hk => rfl, z3, by omega, ?_⟩
        · obtain ⟨⟨c, J3⟩, f1, f2, f3, f4, f5⟩ := hl2
          dsimp only at f2 f3 f4 f5
          have hw : (if nI (q_te B s i - q_tp B s i) ≤ nI 6 then Option.bind (f_X12_wordOf c) fun q100 => some q100 else some (nI 99)) = some (nI (q_wo B s i)) := by
            by_cases h6 : q_te B s i - q_tp B s i ≤ 6
            · rw [if_pos (nI_le h6 (by decide)), f2, Nat.min_eq_left (by omega)]
              have hlt := q_nc_lt (B := B) (p := q_tp B s i) (q_te B s i - q_tp B s i) (fun j hj => (q_lets hi h1 j hj).2)
              have hpow : 32 ^ (q_te B s i - q_tp B s i) ≤ 32 ^ 6 := Nat.pow_le_pow_right (by decide) h6
              rw [m_wordOf (by have : (32 : Nat) ^ 6 < 2 ^ 63 := by decide
                               omega), Option.bind_some]
              unfold q_wo
              rw [if_pos h1]
            · rw [if_neg (nI_ge (by omega) (by omega)), q_wo_long hi h1 (by omega)]
          have e30 : J3 67 30 = nI (q_tp B s i) := by rw [f4 30 (by decide), z4]
          have hwl : q_wo B s i < 100 := by
            unfold q_wo
            rw [if_pos h1]
            exact q_wd_lt _
          have htt : (if nI (q_wo B s i) = nI 99 then nI 4 else nI 3) = nI (q_tt B s i) := by
            unfold q_tt
            rw [if_neg hk0, if_pos h1]
            by_cases e : q_wo B s i = 99
            · rw [if_pos e, if_pos (by rw [e])]
            · rw [if_neg e, if_neg (fun h => e ((nI_eq (by omega) (by decide)).mp h))]
          refine ⟨p_u (p_u J3 67 34 (nI (q_wo B s i))) 67 31 (nI (q_tt B s i)), ?_, fun x hx => by rw [p_u_ne hx, p_u_ne hx, f3 x hx], fun k hk => by rw [p_u_nk (by omega), p_u_nk (by omega), f4 k (by omega), z2 k (by omega) (by omega)], ?_⟩
          · unfold f_X12_advance
            simp only [l1, Option.bind_some, n_let, l4, hz, z3, hby, if_pos hle, hL, bI_ift, f1, f5, e30, pk_sub bte.1, hw, p_u_self, htt]
          · refine ⟨by rw [p_u_nk (by decide), p_u_nk (by decide), f5], by rw [p_u_nk (by decide), p_u_nk (by decide), e30], p_u_self, fun h => ?_, fun h => ?_, fun _ => by rw [p_u_nk (by decide), p_u_self]⟩
            · omega
            · omega
        · rintro zm hm ⟨c, zc⟩ ⟨m0, m1, m2, m4, m5, m6⟩
          dsimp only at m0 m1 m2 m4 m5 m6
          have hxc : q_MX N P zc B s := hX2.to (m2 28 (by decide)) (fun j _ _ => by rw [m1 68 (by decide), z1 68 (by decide)])
          have hf : 502 - zm = 502 - (zm + 1) + 1 := by omega
          rw [hf, q_sc_s] at m6
          have e30 : zc 67 30 = nI (q_tp B s i) := by rw [m2 30 (by decide), z4]
          by_cases hend : q_tp B s i + zm < s
          · have hbz := (hb _ hend).2
            have hby := m_byteAt hxc hend
            have hL := m_isLetter (B (q_tp B s i + zm)) (by omega)
            have hkb := q_kd_b (B (q_tp B s i + zm))
            by_cases hkk : q_kd (B (q_tp B s i + zm)) = 1
            · left
              rw [if_pos ⟨hend, decide_eq_true (hkk.trans h1.symm)⟩] at m6
              rw [decide_eq_true hkk] at hL
              have hstep : (if nI 7 ≤ nI zm then some c else some (((32 * c) + (Int32.toInt64 (nI (B (q_tp B s i + zm))))) - 96)) = some (lN (q_nc B (q_tp B s i) (min (zm + 1) 7))) := by
                by_cases h7 : 7 ≤ zm
                · rw [if_pos (nI_le h7 (by omega)), m0, Nat.min_eq_right h7, Nat.min_eq_right (by omega)]
                · rw [if_neg (nI_ge (by omega) (by omega)), m0, Nat.min_eq_left (by omega), Nat.min_eq_left (by omega), nI_l (by omega), show (32 : Int64) = lN 32 from rfl, show (96 : Int64) = lN 96 from rfl, lN_mul, lN_add, lN_sub (by omega)]
                  show some (lN _) = some (lN (32 * q_nc B (q_tp B s i) zm + (B (q_tp B s i + zm) - 96)))
                  rw [show 32 * q_nc B (q_tp B s i) zm + B (q_tp B s i + zm) - 96 = 32 * q_nc B (q_tp B s i) zm + (B (q_tp B s i + zm) - 96) by omega]
              refine ⟨(lN (q_nc B (q_tp B s i) (min (zm + 1) 7)), p_u zc 67 29 (nI (q_tp B s i + (zm + 1)))), ⟨rfl, fun x hx => by dsimp only; rw [p_u_ne hx]; exact m1 x hx, fun k hk => by dsimp only; rw [p_u_nk hk]; exact m2 k hk, by dsimp only; rw [p_u_self], by omega, m6⟩, fun zrec => ?_⟩
              unfold B_X12_advance_77
              simp only [m4, hby, Option.bind_some, hL, bI_ift, e30, pk_sub (show q_tp B s i ≤ q_tp B s i + zm by omega), Nat.add_sub_cancel_left, hstep, n_let, nI_add]
              rfl
            · right
              rw [if_neg (fun h => hkk ((of_decide_eq_true h.2).trans h1))] at m6
              rw [decide_eq_false hkk] at hL
              refine ⟨(c, zc), ⟨by rw [m0, ← m6, Nat.add_sub_cancel_left], m1, m2, by dsimp only; rw [m4, m6]⟩, fun zrec => ?_⟩
              unfold B_X12_advance_77
              simp only [m4, hby, Option.bind_some, hL, bI_iff]
          · right
            rw [if_neg (fun h => hend h.1)] at m6
            have hby := m_byteAt_n hxc (show s ≤ q_tp B s i + zm by omega) (by omega)
            refine ⟨(c, zc), ⟨by rw [m0, ← m6, Nat.add_sub_cancel_left], m1, m2, by dsimp only; rw [m4, m6]⟩, fun zrec => ?_⟩
            unfold B_X12_advance_77
            simp only [m4, hby, Option.bind_some, m_isLetter_n, bI_iff]
        · rintro zc ⟨m0, m1, m2, m4, m5, m6⟩
          omega
        · show q_sc (fun j => decide (q_kd (B j) = q_tk B s i)) s (501 + 1) (q_tp B s i) = q_te B s i
          rw [q_sc_s, if_pos ⟨hc, decide_eq_true k2⟩, hte]
      · rw [decide_eq_false h1] at hL
        by_cases h2 : q_tk B s i = 2
        · rw [decide_eq_true h2] at hD
          have hte : q_te B s i = q_sc (fun j => decide (q_kd (B j) = q_tk B s i)) s 501 (q_tp B s i + 1) := by
            unfold q_te
            rw [if_neg hk0, if_pos (Or.inr h2)]
          have hl2 := p_loopI (B := B_X12_advance_198 N P 67) (zJ := fun zm (zc : pI) => zc 67 32 = q_nm B (q_tp B s i) (min zm 4) ∧ (∀ x, x ≠ 67 → zc x = I x) ∧ (∀ k, k ≠ 29 → k ≠ 32 → zc 67 k = J2 67 k) ∧ zc 67 29 = nI (q_tp B s i + zm) ∧ q_tp B s i + zm ≤ s ∧ q_sc (fun j => decide (q_kd (B j) = q_tk B s i)) s (502 - zm) (q_tp B s i + zm) = q_te B s i) (zE := fun (zt : pI) => zt 67 32 = q_nm B (q_tp B s i) (min (q_te B s i - q_tp B s i) 4) ∧ (∀ x, x ≠ 67 → zt x = I x) ∧ (∀ k, k ≠ 29 → k ≠ 32 → zt 67 k = J2 67 k) ∧ zt 67 29 = nI (q_te B s i)) (zm := 502) (zn := zn) (by omega) ?_ ?_ (p_u J2 67 32 (nI 0)) ⟨p_u_self, fun x hx => by rw [p_u_ne hx, z1 x hx], fun k _ hk => by rw [p_u_nk hk], by rw [p_u_nk (by decide), z3]; rfl, by omega, ?_⟩
          · obtain ⟨J3, f1, f2, f3, f4, f5⟩ := hl2
            have e30 : J3 67 30 = nI (q_tp B s i) := by rw [f4 30 (by decide) (by decide), z4]
            have htt : (if nI (q_te B s i - q_tp B s i) ≤ nI 4 then nI 1 else nI 4) = nI (q_tt B s i) := by
              unfold q_tt
              rw [if_neg hk0, if_neg h1, if_pos h2]
              by_cases e : q_te B s i - q_tp B s i ≤ 4
              · rw [if_pos e, if_pos (nI_le e (by decide))]
              · rw [if_neg e, if_neg (nI_ge (by omega) (by omega))]
            refine ⟨p_u J3 67 31 (nI (q_tt B s i)), ?_, fun x hx => by rw [p_u_ne hx, f3 x hx], fun k hk => by rw [p_u_nk (by omega), f4 k (by omega) (by omega), z2 k (by omega) (by omega)], ?_⟩
            · unfold f_X12_advance
              simp only [l1, Option.bind_some, n_let, l4, hz, z3, hby, if_pos hle, hL, hD, bI_iff, bI_ift, f1, f5, e30, pk_sub bte.1, htt]
            · refine ⟨by rw [p_u_nk (by decide), f5], by rw [p_u_nk (by decide), e30], p_u_self, fun _ => by rw [p_u_nk (by decide), f2], fun h => ?_, fun h => ?_⟩
              · omega
              · omega
          · rintro zm hm zc ⟨m0, m1, m2, m4, m5, m6⟩
            have hxc : q_MX N P zc B s := hX2.to (m2 28 (by decide) (by decide)) (fun j _ _ => by rw [m1 68 (by decide), z1 68 (by decide)])
            have hf : 502 - zm = 502 - (zm + 1) + 1 := by omega
            rw [hf, q_sc_s] at m6
            have e30 : zc 67 30 = nI (q_tp B s i) := by rw [m2 30 (by decide) (by decide), z4]
            by_cases hend : q_tp B s i + zm < s
            · have hbz := (hb _ hend).2
              have hby := m_byteAt hxc hend
              have hL := m_isDigit (B (q_tp B s i + zm)) (by omega)
              have hkb := q_kd_b (B (q_tp B s i + zm))
              by_cases hkk : q_kd (B (q_tp B s i + zm)) = 2
              · left
                rw [if_pos ⟨hend, decide_eq_true (hkk.trans h2.symm)⟩] at m6
                rw [decide_eq_true hkk] at hL
                by_cases h7 : 4 ≤ zm
                · have hc4 : nI 4 ≤ nI zm := nI_le h7 (by omega)
                  refine ⟨p_u zc 67 29 (nI (q_tp B s i + (zm + 1))), ⟨by rw [p_u_nk (by decide), m0, Nat.min_eq_right h7, Nat.min_eq_right (by omega)], fun x hx => by rw [p_u_ne hx]; exact m1 x hx, fun k hk hk2 => by rw [p_u_nk hk]; exact m2 k hk hk2, p_u_self, by omega, m6⟩, fun zrec => ?_⟩
                  unfold B_X12_advance_198
                  simp only [m4, hby, Option.bind_some, hL, bI_ift, e30, pk_sub (show q_tp B s i ≤ q_tp B s i + zm by omega), Nat.add_sub_cancel_left, if_pos hc4, n_let, nI_add]
                  rfl
                · have hc4 : ¬ nI 4 ≤ nI zm := nI_ge (by omega) (by omega)
                  have h29 : p_u zc 67 32 (nI 10 * q_nm B (q_tp B s i) zm + nI (B (q_tp B s i + zm)) - nI 48) 67 29 = nI (q_tp B s i + zm) := by rw [p_u_nk (by decide), m4]
                  rw [Nat.min_eq_left (show zm ≤ 4 by omega)] at m0
                  refine ⟨p_u (p_u zc 67 32 (nI 10 * q_nm B (q_tp B s i) zm + nI (B (q_tp B s i + zm)) - nI 48)) 67 29 (nI (q_tp B s i + (zm + 1))), ⟨?_, fun x hx => by rw [p_u_ne hx, p_u_ne hx]; exact m1 x hx, fun k hk hk2 => by rw [p_u_nk hk, p_u_nk hk2]; exact m2 k hk hk2, p_u_self, by omega, m6⟩, fun zrec => ?_⟩
                  · rw [p_u_nk (by decide), p_u_self, Nat.min_eq_left (by omega), Int32.mul_comm]; rfl
                  · unfold B_X12_advance_198
                    simp only [m4, hby, Option.bind_some, hL, bI_ift, e30, pk_sub (show q_tp B s i ≤ q_tp B s i + zm by omega), Nat.add_sub_cancel_left, if_neg hc4, n_let, m0, h29, nI_add]
                    rfl
              · right
                rw [if_neg (fun h => hkk ((of_decide_eq_true h.2).trans h2))] at m6
                rw [decide_eq_false hkk] at hL
                refine ⟨zc, ⟨by rw [m0, ← m6, Nat.add_sub_cancel_left], m1, m2, by rw [m4, m6]⟩, fun zrec => ?_⟩
                unfold B_X12_advance_198
                simp only [m4, hby, Option.bind_some, hL, bI_iff]
            · right
              rw [if_neg (fun h => hend h.1)] at m6
              have hby := m_byteAt_n hxc (show s ≤ q_tp B s i + zm by omega) (by omega)
              refine ⟨zc, ⟨by rw [m0, ← m6, Nat.add_sub_cancel_left], m1, m2, by rw [m4, m6]⟩, fun zrec => ?_⟩
              unfold B_X12_advance_198
              simp only [m4, hby, Option.bind_some, m_isDigit_n, bI_iff]
          · rintro zc ⟨m0, m1, m2, m4, m5, m6⟩
            omega
          · show q_sc (fun j => decide (q_kd (B j) = q_tk B s i)) s (501 + 1) (q_tp B s i) = q_te B s i
            rw [q_sc_s, if_pos ⟨hc, decide_eq_true k2⟩, hte]
        · rw [decide_eq_false h2] at hD
          have hte : q_te B s i = q_tp B s i + 1 := by
            unfold q_te
            rw [if_neg hk0, if_neg (by omega)]
          by_cases h3s : q_tk B s i = 3
          · rw [decide_eq_true h3s] at hS
            have htt : q_tt B s i = 2 := by
              unfold q_tt
              rw [if_neg hk0, if_neg h1, if_neg h2, if_pos h3s]
            refine ⟨p_u (p_u (p_u J2 67 29 (nI (q_tp B s i + 1))) 67 33 (nI (B (q_tp B s i)))) 67 31 (nI 2), ?_, fun x hx => by rw [p_u_ne hx, p_u_ne hx, p_u_ne hx, z1 x hx], fun k hk => by rw [p_u_nk (by omega), p_u_nk (by omega), p_u_nk (by omega), z2 k (by omega) (by omega)], ?_⟩
            · unfold f_X12_advance
              simp only [l1, Option.bind_some, n_let, l4, hz, z3, hby, if_pos hle, hL, hD, hS, bI_iff, bI_ift, nI_add]
            · refine ⟨by rw [p_u_nk (by decide), p_u_nk (by decide), p_u_self, hte], by rw [p_u_nk (by decide), p_u_nk (by decide), p_u_nk (by decide), z4], by rw [p_u_self, htt], fun h => absurd h h2, fun _ => by rw [p_u_nk (by decide), p_u_self], fun h => absurd h h1⟩
          · rw [decide_eq_false h3s] at hS
            have htt : q_tt B s i = 4 := by
              unfold q_tt
              rw [if_neg hk0, if_neg h1, if_neg h2, if_neg h3s]
            refine ⟨p_u (p_u (p_u J2 67 29 (nI (q_tp B s i + 1))) 67 33 (nI (B (q_tp B s i)))) 67 31 (nI 4), ?_, fun x hx => by rw [p_u_ne hx, p_u_ne hx, p_u_ne hx, z1 x hx], fun k hk => by rw [p_u_nk (by omega), p_u_nk (by omega), p_u_nk (by omega), z2 k (by omega) (by omega)], ?_⟩
            · unfold f_X12_advance
              simp only [l1, Option.bind_some, n_let, l4, hz, z3, hby, if_pos hle, hL, hD, hS, bI_iff, nI_add]
            · refine ⟨by rw [p_u_nk (by decide), p_u_nk (by decide), p_u_self, hte], by rw [p_u_nk (by decide), p_u_nk (by decide), p_u_nk (by decide), z4], by rw [p_u_self, htt], fun h => absurd h h2, fun h => absurd h h3s, fun h => absurd h h1⟩
    · have hts : q_tp B s i = s := by omega
      have hk0 : q_tk B s i = 0 := (q_tk_0 hi).mpr hts
      have hte : q_te B s i = q_tp B s i := by
        unfold q_te
        rw [if_pos hk0]
      have htt : q_tt B s i = 0 := by
        unfold q_tt
        rw [if_pos hk0]
      have hby := m_byteAt_n hX2 (show s ≤ q_tp B s i by omega) (by omega)
      refine ⟨p_u J2 67 31 (nI 0), ?_, fun x hx => by rw [p_u_ne hx, z1 x hx], fun k hk => by rw [p_u_nk (by omega), z2 k (by omega) (by omega)], ?_⟩
      · unfold f_X12_advance
        simp only [l1, Option.bind_some, n_let, l4, hz, z3, hby, if_neg (show ¬ (0 : Int32) ≤ -1 by decide)]
      · refine ⟨by rw [p_u_nk (by decide), z3, hte], by rw [p_u_nk (by decide), z4], by rw [p_u_self, htt], fun h => ?_, fun h => ?_, fun h => ?_⟩
        · omega
        · omega
        · omega
  · rintro zm hm zc ⟨m1, m2, m3, m4, m5⟩
    have hxc : q_MX N P zc B s := hX.to (m2 28 (by decide)) (fun j _ _ => by rw [m1 68 (by decide)])
    have hf : 501 - zm = 501 - (zm + 1) + 1 := by omega
    rw [hf, q_sc_s] at m5
    by_cases hend : i + zm < s
    · have hbz := (hb _ hend).2
      have hby := m_byteAt hxc hend
      cases hq : q_bl (B (i + zm)) with
      | true =>
        left
        rw [if_pos ⟨hend, hq⟩] at m5
        refine ⟨p_u zc 67 29 (nI (i + (zm + 1))), ⟨fun x hx => by rw [p_u_ne hx]; exact m1 x hx, fun k hk => by rw [p_u_nk hk]; exact m2 k hk, p_u_self, by omega, m5⟩, fun zrec => ?_⟩
        unfold B_X12_advance_0
        unfold q_bl at hq
        by_cases h10 : B (i + zm) = 10
        · have hc1 : nI (B (i + zm)) = nI 10 := by rw [h10]
          simp only [m3, hby, Option.bind_some, if_pos hc1, n_let, nI_add]
          rfl
        · have h32 : B (i + zm) = 32 := by
            rw [decide_eq_false h10, Bool.or_false] at hq
            exact of_decide_eq_true hq
          have hc1 : ¬ nI (B (i + zm)) = nI 10 := by rw [h32]; decide
          have hc2 : nI (B (i + zm)) = nI 32 := by rw [h32]
          simp only [m3, hby, Option.bind_some, if_neg hc1, if_pos hc2, n_let, nI_add]
          rfl
      | false =>
        right
        rw [if_neg (fun h => by rw [hq] at h; cases h.2)] at m5
        unfold q_bl at hq
        rw [Bool.or_eq_false_iff] at hq
        have h32 := of_decide_eq_false hq.1
        have h10 := of_decide_eq_false hq.2
        have hc1 : ¬ nI (B (i + zm)) = nI 10 := fun e => h10 ((nI_eq (by omega) (by decide)).mp e)
        have hc2 : ¬ nI (B (i + zm)) = nI 32 := fun e => h32 ((nI_eq (by omega) (by decide)).mp e)
        refine ⟨zc, ⟨m1, m2, by rw [m3, m5]⟩, fun zrec => ?_⟩
        unfold B_X12_advance_0
        simp only [m3, hby, Option.bind_some, if_neg hc1, if_neg hc2]
    · right
      rw [if_neg (fun h => hend h.1)] at m5
      have hby := m_byteAt_n hxc (show s ≤ i + zm by omega) (by omega)
      refine ⟨zc, ⟨m1, m2, by rw [m3, m5]⟩, fun zrec => ?_⟩
      unfold B_X12_advance_0
      simp only [m3, hby, Option.bind_some, if_neg (show ¬ (-1 : Int32) = nI 10 by decide), if_neg (show ¬ (-1 : Int32) = nI 32 by decide)]
  · rintro zc ⟨m1, m2, m3, m4, m5⟩
    omega
end MTok
