/-! echo; two loops side by side -/
theorem p_loop2 {S1 T1 S2 T2 : Type} {B1 : (S1 → Option T1) → S1 → Option T1} {B2 : (S2 → Option T2) → S2 → Option T2} {zJ : Nat → S1 → S2 → Prop} {zE : T1 → T2 → Prop} {zm zn : Nat} (hn1 : zm < zn) (hstep : ∀ zk, zk < zm → ∀ zs zr, zJ zk zs zr → (∃ zs2 zr2, zJ (zk + 1) zs2 zr2 ∧ (∀ zrec, B1 zrec zs = zrec zs2) ∧ ∀ zrec, B2 zrec zr = zrec zr2) ∨ ∃ zt zu, zE zt zu ∧ (∀ zrec, B1 zrec zs = some zt) ∧ ∀ zrec, B2 zrec zr = some zu) (hend : ∀ zs zr, zJ zm zs zr → ∃ zt zu, zE zt zu ∧ (∀ zrec, B1 zrec zs = some zt) ∧ ∀ zrec, B2 zrec zr = some zu) : ∀ zs zr, zJ 0 zs zr → ∃ zt zu, p_it B1 zn zs = some zt ∧ p_it B2 zn zr = some zu ∧ zE zt zu := by
  have hmain : ∀ (zd zk zn2 : Nat), zk + zd = zm → zd < zn2 → ∀ zs zr, zJ zk zs zr → ∃ zt zu, p_it B1 zn2 zs = some zt ∧ p_it B2 zn2 zr = some zu ∧ zE zt zu := by
    intro zd
    induction zd with
    | zero =>
      intro zk zn2 hk1 hn2 zs zr hj1
      have ek : zk = zm := by omega
      rw [ek] at hj1
      obtain ⟨zt, zu, ht1, ht2, ht3⟩ := hend zs zr hj1
      obtain ⟨zn3, rfl⟩ : ∃ zn3, zn2 = zn3 + 1 := ⟨zn2 - 1, by omega⟩
      exact ⟨zt, zu, ht2 _, ht3 _, ht1⟩
    | succ zd ih =>
      intro zk zn2 hk1 hn2 zs zr hj1
      obtain ⟨zn3, rfl⟩ : ∃ zn3, zn2 = zn3 + 1 := ⟨zn2 - 1, by omega⟩
      rcases hstep zk (by omega) zs zr hj1 with ⟨zs2, zr2, hs1, hs2, hs3⟩ | ⟨zt, zu, ht1, ht2, ht3⟩
      · obtain ⟨zt, zu, ht1, ht2, ht3⟩ := ih (zk + 1) zn3 (by omega) (by omega) zs2 zr2 hs1
        exact ⟨zt, zu, by show B1 (p_it B1 zn3) zs = _; rw [hs2]; exact ht1, by show B2 (p_it B2 zn3) zr = _; rw [hs3]; exact ht2, ht3⟩
      · exact ⟨zt, zu, ht2 _, ht3 _, ht1⟩
  intro zs zr hj1
  exact hmain zm 0 zn (by omega) (by omega) zs zr hj1
theorem n_sm {x : Int32} {z : Int} (h : x.toInt = z) (y : Int32) {w : Int} (hy : y.toInt = w) (h1 : -1000 ≤ z ∧ z ≤ 1000) (h2 : -1000 ≤ w ∧ w ≤ 1000) : (x * y).toInt = z * w := by
  rw [Int32.toInt_mul, h, hy]
  have a1 : -1000000 ≤ z * w ∧ z * w ≤ 1000000 := by
    have b1 : z.natAbs ≤ 1000 := by omega
    have b2 : w.natAbs ≤ 1000 := by omega
    have b3 : (z * w).natAbs ≤ 1000 * 1000 := by rw [Int.natAbs_mul]; exact Nat.mul_le_mul b1 b2
    omega
  rw [Int.bmod_def]
  omega
theorem n_sa {x : Int32} {z : Int} (h : x.toInt = z) {y : Int32} {w : Int} (hy : y.toInt = w) (h1 : -1000 ≤ z ∧ z ≤ 1000) (h2 : -1000 ≤ w ∧ w ≤ 1000) : (x + y).toInt = z + w := by
  rw [Int32.toInt_add, h, hy, Int.bmod_def]
  omega
theorem n_ss {x : Int32} {z : Int} (h : x.toInt = z) {y : Int32} {w : Int} (hy : y.toInt = w) (h1 : -1000 ≤ z ∧ z ≤ 1000) (h2 : -1000 ≤ w ∧ w ≤ 1000) : (x - y).toInt = z - w := by
  rw [Int32.toInt_sub, h, hy, Int.bmod_def]
  omega
def q_ech (c f t : Nat) (b e : Int32) : Bool := (decide (f < c) && decide (t < c) || decide (c < f) && decide (c < t)) && decide (((((nI f - nI c) + nI t) - nI c) * (((nI f - nI c) + nI t) - nI c)) + (b * b) = e)
theorem c_echoesAt {c f t : Nat} (hc : c ≤ 20) (hf : f ≤ 20) (ht : t ≤ 20) (b e : Int32) : f_X11_echoesAt (nI c) (nI f) (nI t) b e = some (bI (q_ech c f t b e)) := by
  have ec := nI_toInt (n := c) (by omega)
  have ef := nI_toInt (n := f) (by omega)
  have et := nI_toInt (n := t) (by omega)
  have d1 := n_ss ef ec (by omega) (by omega)
  have d2 := n_ss et ec (by omega) (by omega)
  have dm := n_sm d1 (nI t - nI c) d2 (by omega) (by omega)
  have hiff : ((nI f - nI c) * (nI t - nI c) ≤ 0) ↔ ¬ ((f < c ∧ t < c) ∨ (c < f ∧ c < t)) := by
    have z0 : (0 : Int32).toInt = 0 := rfl
    rw [Int32.le_iff_toInt_le, dm, z0]
    by_cases g1 : f < c
    · by_cases g2 : t < c
      · have : 0 < ((f : Int) - c) * ((t : Int) - c) := Int.mul_pos_of_neg_of_neg (by omega) (by omega)
        constructor
        · intro h; omega
        · intro h; exact absurd (Or.inl ⟨g1, g2⟩) h
      · have : ((f : Int) - c) * ((t : Int) - c) ≤ 0 := Int.mul_nonpos_of_nonpos_of_nonneg (by omega) (by omega)
        constructor
        · intro _ h; omega
        · intro _; exact this
    · by_cases g2 : c < f
      · by_cases g3 : c < t
        · have : 0 < ((f : Int) - c) * ((t : Int) - c) := Int.mul_pos (by omega) (by omega)
          constructor
          · intro h; omega
          · intro h; exact absurd (Or.inr ⟨g2, g3⟩) h
        · have : ((f : Int) - c) * ((t : Int) - c) ≤ 0 := Int.mul_nonpos_of_nonneg_of_nonpos (by omega) (by omega)
          constructor
          · intro _ h; omega
          · intro _; exact this
      · have e0 : (f : Int) - c = 0 := by omega
        rw [e0, Int.zero_mul]
        constructor
        · intro _ h; omega
        · intro _; omega
  unfold f_X11_echoesAt q_ech
  by_cases hq : (f < c ∧ t < c) ∨ (c < f ∧ c < t)
  · have hb : (decide (f < c) && decide (t < c) || decide (c < f) && decide (c < t)) = true := by
      rcases hq with ⟨g1, g2⟩ | ⟨g1, g2⟩
      · rw [decide_eq_true g1, decide_eq_true g2]; rfl
      · rw [decide_eq_true g1, decide_eq_true g2, Bool.and_self, Bool.or_true]
    rw [if_neg (fun h => (hiff.mp h) hq), hb, Bool.true_and]
    by_cases hv : ((((nI f - nI c) + nI t) - nI c) * (((nI f - nI c) + nI t) - nI c)) + (b * b) = e
    · rw [if_pos hv, decide_eq_true hv]; rfl
    · rw [if_neg hv, decide_eq_false hv]; rfl
  · have hb : (decide (f < c) && decide (t < c) || decide (c < f) && decide (c < t)) = false := by
      cases h1 : decide (f < c) && decide (t < c) with
      | true =>
        rw [Bool.and_eq_true, decide_eq_true_iff, decide_eq_true_iff] at h1
        exact absurd (Or.inl h1) hq
      | false =>
        cases h2 : decide (c < f) && decide (c < t) with
        | true =>
          rw [Bool.and_eq_true, decide_eq_true_iff, decide_eq_true_iff] at h2
          exact absurd (Or.inr h2) hq
        | false => rfl
    rw [if_pos (hiff.mpr hq), hb, Bool.false_and]
    rfl
theorem m_echoes {c f t : Nat} (hc : c ≤ 20) (hf : f ≤ 20) (ht : t ≤ 20) (b e : Int32) : f_X12_echoes (nI f) (nI t) b (nI c) e = some (bI (q_ech c f t b e)) := by
  have ec := nI_toInt (n := c) (by omega)
  have ef := nI_toInt (n := f) (by omega)
  have et := nI_toInt (n := t) (by omega)
  have e2 : (nI 2).toInt = 2 := by decide
  have d1 := n_ss (n_sa (n_ss ef ec (by omega) (by omega)) et (by omega) (by omega)) ec (by omega) (by omega)
  have d2 := n_ss (n_ss (n_sm e2 (nI c) ec (by omega) (by omega)) ef (by omega) (by omega)) et (by omega) (by omega)
  have hsq : ((nI 2 * nI c) - nI f - nI t) * ((nI 2 * nI c) - nI f - nI t) = (((nI f - nI c) + nI t) - nI c) * (((nI f - nI c) + nI t) - nI c) := by
    apply Int32.toInt_inj.mp
    rw [n_sm d1 _ d1 (by omega) (by omega), n_sm d2 _ d2 (by omega) (by omega)]
    have h9 : (2 : Int) * c - f - t = -((f : Int) - c + t - c) := by omega
    rw [h9, Int.neg_mul_neg]
  have J29 : J_X12_echoes_29 ((nI 2 * nI c) - nI f - nI t) b e = some (bI (decide (((((nI f - nI c) + nI t) - nI c) * (((nI f - nI c) + nI t) - nI c)) + (b * b) = e))) := by
    unfold J_X12_echoes_29
    rw [hsq]
    by_cases hv : ((((nI f - nI c) + nI t) - nI c) * (((nI f - nI c) + nI t) - nI c)) + (b * b) = e
    · rw [if_pos hv, decide_eq_true hv]; rfl
    · rw [if_neg hv, decide_eq_false hv]; rfl
  have l1 : (nI c ≤ nI f) ↔ ¬ f < c := by rw [nI_leI (by omega) (by omega)]; omega
  have l2 : (nI t < nI c) ↔ t < c := nI_ltI (by omega) (by omega)
  have l3 : (nI f ≤ nI c) ↔ ¬ c < f := by rw [nI_leI (by omega) (by omega)]; omega
  have l4 : (nI t ≤ nI c) ↔ ¬ c < t := by rw [nI_leI (by omega) (by omega)]; omega
  unfold f_X12_echoes q_ech J_X12_echoes_19
  rw [J29]
  by_cases g1 : f < c
  · have g3 : ¬ c < f := by omega
    rw [if_neg (fun h => (l1.mp h) g1), if_pos (l3.mpr g3), decide_eq_true g1, decide_eq_false g3]
    by_cases g2 : t < c
    · rw [if_pos (l2.mpr g2), decide_eq_true g2]; rfl
    · rw [if_neg (fun h => g2 (l2.mp h)), decide_eq_false g2]; rfl
  · rw [if_pos (l1.mpr g1), decide_eq_false g1]
    by_cases g3 : c < f
    · rw [if_neg (fun h => (l3.mp h) g3), decide_eq_true g3]
      by_cases g4 : c < t
      · rw [if_neg (fun h => (l4.mp h) g4), decide_eq_true g4]; rfl
      · rw [if_pos (l4.mpr g4), decide_eq_false g4]; rfl
    · rw [if_pos (l3.mpr g3), decide_eq_false g3]; rfl
theorem sp_echo {n zk : Nat} (hn : 200 < n) : Sp_echo n (Ivv zk) (Ivv (zk + 1)) := by
  intro N I L P h x1 x2 x3 x4 x5
  have h : IV zk N P I := h
  have hG := h.gw
  have r1 := h.n1
  have h6 := r1.2
  rcases Bool.eq_false_or_eq_true (q_st (I 68) x1) with hb | hb
  · rcases Bool.eq_false_or_eq_true (q_pt x2 x3) with hp | hp
    · obtain ⟨zx, zy, hx, hy, e2, e3⟩ := q_ptx hp
      rcases q_st_x r1 (by decide) x1 with ⟨e, g⟩ | ⟨zs, hs, e, _⟩
      · rw [hb] at e; cases e
      · obtain ⟨c1, _, c3⟩ := h.sr.sn hs
        have g0 : I 7 (zs * 8 + 0) = I 68 (120 + 8 * zs + 0) := c1 0 (by decide)
        have g1 : I 7 (zs * 8 + 1) = I 68 (120 + 8 * zs + 1) := c1 1 (by decide)
        have w0 : rg (I 68 (120 + 8 * zs + 0)) 20 := c3.1
        have w1 : rg (I 68 (120 + 8 * zs + 1)) 20 := c3.2.1
        obtain ⟨za, ha, ea⟩ : ∃ za, za ≤ 20 ∧ I 68 (120 + 8 * zs + 0) = nI za := ⟨_, w0.2, w0.1⟩
        obtain ⟨zb, hbb, eb⟩ : ∃ zb, zb ≤ 20 ∧ I 68 (120 + 8 * zs + 1) = nI zb := ⟨_, w1.2, w1.1⟩
        -- one line
        have hcl : ∀ zj, zj < 42 → nI zj - nI zj / nI 21 * nI 21 = nI (zj % 21) := fun zj hj => pk_rem (by omega) (by decide) (by decide)
        by_cases h5 : 0 ≤ x5
        · have hloop := p_loop2 (B1 := B_X11_echo_60 (nI zb) (nI za) (nI zx) (nI zy) x4 x5) (B2 := B_X12_echo_40 (nI zb) (nI za) (nI zx) (nI zy) x4 x5) (zJ := fun zi (zs : Int32 × Int32) (zr : Int32 × Int32) => zs = zr ∧ zs.2 = nI zi) (zE := fun zt zu => zt = zu) (zm := 42) (zn := n) (by omega) ?_ ?_ (nI 0, nI 0) (nI 0, nI 0) ⟨rfl, rfl⟩
          · obtain ⟨zt, zu, t1, t2, t3⟩ := hloop
            refine ⟨zt, zu, ?_, ?_, t3, h.up⟩
            · unfold f_X11_echo
              rw [c_point, hp]
              simp only [gp_0_0 hG, gp_1_2 hG, Option.bind_some, c_st hG h.sr, hb, bI_ift, if_pos h5]
              rw [e, tb_get h.sr.tbs hs (show 0 < 8 by decide), tb_get h.sr.tbs hs (show 1 < 8 by decide), g0, g1, ea, eb, e2, e3, Option.bind_some, Option.bind_some]
              exact t1
            · unfold f_X12_echo
              rw [m_st hG h.sr, hb, m_point, hp, e, m_senderOf hG (by omega) (by decide), m_senderOf hG (by omega) (by decide), ea, eb, e2, e3]
              simp only [Option.bind_some, bI_ift, t2]
          · rintro zi hi ⟨zf, zl⟩ _ ⟨rfl, e9⟩
            dsimp only at e9
            subst e9
            have hc42 : ¬ nI 42 ≤ nI zi := nI_ge hi (by decide)
            by_cases hu : zi < 21
            · have hc21 : ¬ nI 21 ≤ nI zi := nI_ge hu (by decide)
              have hrem : zi % 21 = zi := Nat.mod_eq_of_lt hu
              have hA := c_echoesAt (c := zi) (f := za) (t := zx) (by omega) ha hx (nI zb - nI zy) x4
              have hB := m_echoes (c := zi) (f := za) (t := zx) (by omega) ha hx (nI zb - nI zy) x4
              cases hq : q_ech zi za zx (nI zb - nI zy) x4 with
              | false =>
                rw [hq] at hA hB
                left
                refine ⟨(zf, nI (zi + 1)), (zf, nI (zi + 1)), ⟨rfl, rfl⟩, fun zrec => ?_, fun zrec => ?_⟩
                · unfold B_X11_echo_60
                  simp only [if_neg hc42, if_neg hc21, n_let, n_10, if_false, hcl zi hi, hrem, hA, Option.bind_some, bI_iff, nI_add]
                  rw [nI_0, Int32.add_zero]
                · unfold B_X12_echo_40
                  simp only [if_neg hc42, if_neg hc21, hB, Option.bind_some, bI_iff, nI_add]
              | true =>
                rw [hq] at hA hB
                by_cases hk5 : zf = x5
                · right
                  refine ⟨nI zi, nI zi, rfl, fun zrec => ?_, fun zrec => ?_⟩
                  · unfold B_X11_echo_60
                    simp only [if_neg hc42, if_neg hc21, n_let, n_10, if_false, hcl zi hi, hrem, hA, Option.bind_some, bI_ift, if_pos hk5]
                  · unfold B_X12_echo_40
                    simp only [if_neg hc42, if_neg hc21, hB, Option.bind_some, bI_ift, if_pos hk5]
                · left
                  refine ⟨(zf + nI 1, nI (zi + 1)), (zf + nI 1, nI (zi + 1)), ⟨rfl, rfl⟩, fun zrec => ?_, fun zrec => ?_⟩
                  · unfold B_X11_echo_60
                    simp only [if_neg hc42, if_neg hc21, n_let, n_10, if_false, hcl zi hi, hrem, hA, Option.bind_some, bI_ift, if_neg hk5, nI_add]
                  · unfold B_X12_echo_40
                    simp only [if_neg hc42, if_neg hc21, hB, Option.bind_some, bI_ift, if_neg hk5, nI_add]
            · have hc21 : nI 21 ≤ nI zi := nI_le (by omega) (by omega)
              have hrem : zi % 21 = zi - 21 := by omega
              have hsub : nI zi - nI 21 = nI (zi - 21) := pk_sub (by omega)
              have hans : nI 100 + nI (zi - 21) = nI 79 + nI zi := by rw [nI_add, nI_add]; congr 1; omega
              have hA := c_echoesAt (c := zi - 21) (f := zb) (t := zy) (by omega) hbb hy (nI za - nI zx) x4
              have hB := m_echoes (c := zi - 21) (f := zb) (t := zy) (by omega) hbb hy (nI za - nI zx) x4
              cases hq : q_ech (zi - 21) zb zy (nI za - nI zx) x4 with
              | false =>
                rw [hq] at hA hB
                left
                refine ⟨(zf, nI (zi + 1)), (zf, nI (zi + 1)), ⟨rfl, rfl⟩, fun zrec => ?_, fun zrec => ?_⟩
                · unfold B_X11_echo_60
                  simp only [if_neg hc42, if_pos hc21, n_let, n_00, if_true, hcl zi hi, hrem, hA, Option.bind_some, bI_iff, nI_add]
                  rw [nI_0, Int32.add_zero]
                · unfold B_X12_echo_40
                  simp only [if_neg hc42, if_pos hc21, hsub, hB, Option.bind_some, bI_iff, nI_add]
              | true =>
                rw [hq] at hA hB
                by_cases hk5 : zf = x5
                · right
                  refine ⟨nI 100 + nI (zi - 21), nI 79 + nI zi, hans, fun zrec => ?_, fun zrec => ?_⟩
                  · unfold B_X11_echo_60
                    simp only [if_neg hc42, if_pos hc21, n_let, n_00, if_true, hcl zi hi, hrem, hA, Option.bind_some, bI_ift, if_pos hk5]
                  · unfold B_X12_echo_40
                    simp only [if_neg hc42, if_pos hc21, hsub, hB, Option.bind_some, bI_ift, if_pos hk5]
                · left
                  refine ⟨(zf + nI 1, nI (zi + 1)), (zf + nI 1, nI (zi + 1)), ⟨rfl, rfl⟩, fun zrec => ?_, fun zrec => ?_⟩
                  · unfold B_X11_echo_60
                    simp only [if_neg hc42, if_pos hc21, n_let, n_00, if_true, hcl zi hi, hrem, hA, Option.bind_some, bI_ift, if_neg hk5, nI_add]
                  · unfold B_X12_echo_40
                    simp only [if_neg hc42, if_pos hc21, hsub, hB, Option.bind_some, bI_ift, if_neg hk5, nI_add]
          · rintro ⟨zf, zl⟩ _ ⟨rfl, e9⟩
            dsimp only at e9
            subst e9
            refine ⟨-1, -1, rfl, fun zrec => ?_, fun zrec => ?_⟩
            · unfold B_X11_echo_60
              exact if_pos (show nI 42 ≤ nI 42 by decide)
            · unfold B_X12_echo_40
              exact if_pos (show nI 42 ≤ nI 42 by decide)
        · -- none has a number below 0
          have h5b : x5 < 0 := Int32.not_le.mp h5
          have hloop := p_loopI (B := B_X12_echo_40 (nI zb) (nI za) (nI zx) (nI zy) x4 x5) (zJ := fun zi (zr : Int32 × Int32) => zr.2 = nI zi ∧ ∃ zc, zc ≤ zi ∧ zr.1 = nI zc) (zE := fun zt => zt = -1) (zm := 42) (zn := n) (by omega) ?_ ?_ (nI 0, nI 0) ⟨rfl, 0, Nat.le_refl _, rfl⟩
          · obtain ⟨zt, t1, t2⟩ := hloop
            refine ⟨-1, zt, ?_, ?_, t2.symm, h.up⟩
            · unfold f_X11_echo
              simp only [gp_0_0 hG, Option.bind_some, c_st hG h.sr, hb, bI_ift, c_point, hp, if_neg h5]
            · unfold f_X12_echo
              rw [m_st hG h.sr, hb, m_point, hp, e, m_senderOf hG (by omega) (by decide), m_senderOf hG (by omega) (by decide), ea, eb, e2, e3]
              simp only [Option.bind_some, bI_ift, t1]
          · rintro zi hi ⟨zf, zl⟩ ⟨e9, zc, hc9, ec9⟩
            dsimp only at e9 ec9
            subst e9
            subst ec9
            have hk5 : ¬ nI zc = x5 := fun e => by rw [← e] at h5b; exact nI_pos (by omega) h5b
            have hc42 : ¬ nI 42 ≤ nI zi := nI_ge hi (by decide)
            left
            by_cases hu : zi < 21
            · have hc21 : ¬ nI 21 ≤ nI zi := nI_ge hu (by decide)
              have hB := m_echoes (c := zi) (f := za) (t := zx) (by omega) ha hx (nI zb - nI zy) x4
              cases hq : q_ech zi za zx (nI zb - nI zy) x4 with
              | false =>
                rw [hq] at hB
                refine ⟨(nI zc, nI (zi + 1)), ⟨rfl, zc, by omega, rfl⟩, fun zrec => ?_⟩
                unfold B_X12_echo_40
                simp only [if_neg hc42, if_neg hc21, hB, Option.bind_some, bI_iff, nI_add]
              | true =>
                rw [hq] at hB
                refine ⟨(nI (zc + 1), nI (zi + 1)), ⟨rfl, zc + 1, by omega, rfl⟩, fun zrec => ?_⟩
                unfold B_X12_echo_40
                simp only [if_neg hc42, if_neg hc21, hB, Option.bind_some, bI_ift, if_neg hk5, nI_add]
            · have hc21 : nI 21 ≤ nI zi := nI_le (by omega) (by omega)
              have hsub : nI zi - nI 21 = nI (zi - 21) := pk_sub (by omega)
              have hB := m_echoes (c := zi - 21) (f := zb) (t := zy) (by omega) hbb hy (nI za - nI zx) x4
              cases hq : q_ech (zi - 21) zb zy (nI za - nI zx) x4 with
              | false =>
                rw [hq] at hB
                refine ⟨(nI zc, nI (zi + 1)), ⟨rfl, zc, by omega, rfl⟩, fun zrec => ?_⟩
                unfold B_X12_echo_40
                simp only [if_neg hc42, if_pos hc21, hsub, hB, Option.bind_some, bI_iff, nI_add]
              | true =>
                rw [hq] at hB
                refine ⟨(nI (zc + 1), nI (zi + 1)), ⟨rfl, zc + 1, by omega, rfl⟩, fun zrec => ?_⟩
                unfold B_X12_echo_40
                simp only [if_neg hc42, if_pos hc21, hsub, hB, Option.bind_some, bI_ift, if_neg hk5, nI_add]
          · rintro ⟨zf, zl⟩ ⟨e9, _⟩
            dsimp only at e9
            subst e9
            refine ⟨-1, rfl, fun zrec => ?_⟩
            unfold B_X12_echo_40
            exact if_pos (show nI 42 ≤ nI 42 by decide)
    · refine ⟨-1, -1, ?_, ?_, rfl, h.up⟩
      · unfold f_X11_echo
        simp only [gp_0_0 hG, Option.bind_some, c_st hG h.sr, hb, bI_ift, c_point, hp, bI_iff]
      · unfold f_X12_echo
        simp only [m_st hG h.sr, hb, Option.bind_some, m_point, hp, bI_iff, bI_ift]
  · refine ⟨-1, -1, ?_, ?_, rfl, h.up⟩
    · unfold f_X11_echo
      simp only [gp_0_0 hG, Option.bind_some, c_st hG h.sr, hb, bI_iff]
    · unfold f_X12_echo
      simp only [m_st hG h.sr, hb, Option.bind_some, bI_iff]
