/-! the reference's rows come -/
section Comes
variable {N : pN} {P : pR} {M : pI} {B : Nat → Nat} {s i zn k r : Nat}
theorem m_copy4 {Bd : (Int32 × pI → Option pI) → Int32 × pI → Option pI} {base : Nat} {u : Nat → Nat} (hb : 30 ≤ base) (hstep : ∀ c, c < 4 → ∀ X : pI, (∀ x, x ≠ 68 → X x = M x) → (∀ j, j < 30 → X 68 j = M 68 j) → ∀ rec, Bd rec (nI c, X) = rec (nI (c + 1), p_u X 68 (base + c) (nI (u c)))) (hend : ∀ X rec, Bd rec (nI 4, X) = some X) (hn : 600 < zn) : ∃ X, p_it Bd zn (nI 0, M) = some X ∧ (∀ x, x ≠ 68 → X x = M x) ∧ ∀ j, X 68 j = if base ≤ j ∧ j < base + 4 then nI (u (j - base)) else M 68 j := by
  refine p_loopI (B := Bd) (zJ := fun c (zc : Int32 × pI) => zc.1 = nI c ∧ (∀ x, x ≠ 68 → zc.2 x = M x) ∧ ∀ j, zc.2 68 j = if base ≤ j ∧ j < base + c then nI (u (j - base)) else M 68 j) (zE := fun X => (∀ x, x ≠ 68 → X x = M x) ∧ ∀ j, X 68 j = if base ≤ j ∧ j < base + 4 then nI (u (j - base)) else M 68 j) (zm := 4) (zn := zn) (by omega) ?_ ?_ (nI 0, M) ⟨rfl, fun x _ => rfl, fun j => by dsimp only; rw [if_neg (by omega)]⟩
  · rintro c hc ⟨zi, X⟩ ⟨m1, m2, m3⟩
    dsimp only at m1 m2 m3
    subst m1
    left
    refine ⟨(nI (c + 1), p_u X 68 (base + c) (nI (u c))), ⟨rfl, fun x hx => by dsimp only; rw [p_u_ne hx]; exact m2 x hx, fun j => ?_⟩, hstep c hc X m2 (fun j hj => by rw [m3 j, if_neg (by omega)])⟩
    dsimp only
    by_cases e : j = base + c
    · rw [e, p_u_self, if_pos (by omega), Nat.add_sub_cancel_left]
    · rw [p_u_nk e, m3 j]
      by_cases e2 : base ≤ j ∧ j < base + c
      · rw [if_pos e2, if_pos (by omega)]
      · rw [if_neg e2, if_neg (by omega)]
  · rintro ⟨zi, X⟩ ⟨m1, m2, m3⟩
    dsimp only at m1 m2 m3
    subst m1
    exact ⟨X, ⟨m2, m3⟩, hend X⟩
/-- what was told of a line -/
def q_tl (M : pI) (B : Nat → Nat) (s i k n : Nat) : Prop := M 82 (6 * k) = nI (q_wo B s i) ∧ ∀ c, c < n → M 82 (6 * k + 1 + c) = nI (q_v B s i c) ∧ q_v B s i c ≤ 9999
theorem m_comes1 (hG : GW N P) (g : q_wo B s i = 1) (ht : q_tl M B s i k 5) (hk : k ≤ 63) (hr : M 68 0 = nI r) (hr2 : r < 12) (hck : q_crk B s i = false) (hn : 600 < zn) : ∃ M2, f_X12_comes zn N M P 67 (nI (6 * k)) = some M2 ∧ (∀ x, x ≠ 68 → M2 x = M x) ∧ M2 68 = q_cm B s (M 68) i := by
  obtain ⟨t0, t1⟩ := ht
  rw [g] at t0
  have w0 : M 82 (6 * k + 1) = nI (q_v B s i 0) := (t1 0 (by decide)).1
  have w1 : M 82 (6 * k + 2) = nI (q_v B s i 1) := (t1 1 (by decide)).1
  have w2 : M 82 (6 * k + 3) = nI (q_v B s i 2) := (t1 2 (by decide)).1
  have w3 : M 82 (6 * k + 4) = nI (q_v B s i 3) := (t1 3 (by decide)).1
  have w4 : M 82 (6 * k + 5) = nI (q_v B s i 4) := (t1 4 (by decide)).1
  have u0 := (t1 0 (by decide)).2
  have u1 := (t1 1 (by decide)).2
  have u2 := (t1 2 (by decide)).2
  have u3 := (t1 3 (by decide)).2
  have ib : ∀ j, j < 390 → p_ib N 82 (nI j) = true := fun j hj => n_ib (gn_82 hG) hj (by decide)
  have kc : ∀ j, j < 5000 → (nI j).toNatClampNeg = j := fun j hj => nI_clamp (by omega)
  have i8 : ∀ j, j < 4640 → p_ib N 68 (nI j) = true := fun j hj => ib_68 hG hj
  -- turned round?
  have hsw : ∃ b : Bool, (if nI (q_v B s i 2) < nI (q_v B s i 0) then some (nI 1) else if nI (q_v B s i 1) ≤ nI (q_v B s i 3) then some (nI 0) else some (nI 1)) = some (bI b) ∧ (b = true ↔ (q_v B s i 2 < q_v B s i 0 ∨ q_v B s i 3 < q_v B s i 1)) := by
    by_cases c1 : q_v B s i 2 < q_v B s i 0
    · exact ⟨true, by rw [if_pos (nI_lt c1 (by omega))]; rfl, by simp [c1]⟩
    · by_cases c2 : q_v B s i 1 ≤ q_v B s i 3
      · refine ⟨false, by rw [if_neg (nI_nlt (by omega) (by omega)), if_pos (nI_le c2 (by omega))]; rfl, ?_⟩
        constructor
        · intro h; cases h
        · intro h; omega
      · refine ⟨true, by rw [if_neg (nI_nlt (by omega) (by omega)), if_neg (nI_ge (by omega) (by omega))]; rfl, ?_⟩
        constructor
        · intro _; omega
        · intro _; rfl
  obtain ⟨b, hb1, hb2⟩ := hsw
  obtain ⟨X, x1, x2, x3⟩ := m_copy4 (M := M) (zn := zn) (Bd := B_X12_comes_73 N P (bI b) (nI (30 + 7 * r)) 67 (nI (6 * k))) (base := 30 + 7 * r) (u := fun c => q_v B s i (if b = true then (c + 2) % 4 else c)) (by omega) (fun c hc X y1 y2 rec => by
    have hle : ¬ nI 4 ≤ nI c := nI_ge hc (by omega)
    unfold B_X12_comes_73
    cases b with
    | false =>
      have hv : X 82 (6 * k + 1 + c) = nI (q_v B s i c) := by rw [y1 82 (by decide)]; exact (t1 c (by omega)).1
      simp only [if_neg hle, gp_67_0 hG, gp_67_36 hG, Option.bind_some, bI_iff, nI_add, n_ck (ib (6 * k + 1 + c) (by omega)), n_ck (i8 (30 + 7 * r + c) (by omega)), kc (30 + 7 * r + c) (by omega), kc (6 * k + 1 + c) (by omega), n_let, hv]
      rfl
    | true =>
      have hv : X 82 (6 * k + 1 + (c + 2) % 4) = nI (q_v B s i ((c + 2) % 4)) := by rw [y1 82 (by decide)]; exact (t1 _ (by omega)).1
      simp only [if_neg hle, gp_67_0 hG, gp_67_36 hG, Option.bind_some, bI_ift, nI_add, pk_rem (show c + 2 < 2 ^ 31 by omega) (show 0 < 4 by decide) (show 4 < 2 ^ 31 by decide), n_ck (ib (6 * k + 1 + (c + 2) % 4) (by omega)), n_ck (i8 (30 + 7 * r + c) (by omega)), kc (30 + 7 * r + c) (by omega), kc (6 * k + 1 + (c + 2) % 4) (by omega), n_let, hv, if_true]) (fun X rec => by
    unfold B_X12_comes_73
    simp only [if_pos (show nI 4 ≤ nI 4 by decide)]) hn
  have x82 : ∀ j, X 82 j = M 82 j := fun j => by rw [x2 82 (by decide)]
  refine ⟨p_u (p_u (p_u (p_u X 68 (30 + 7 * r + 4) (nI (q_v B s i 4))) 68 (30 + 7 * r + 5) (M 68 4)) 68 (30 + 7 * r + 6) (-1)) 68 0 (nI (r + 1)), ?_, fun x hx => by rw [p_u_ne hx, p_u_ne hx, p_u_ne hx, p_u_ne hx, x2 x hx], ?_⟩
  · have e4 : p_u X 68 (30 + 7 * r + 4) (nI (q_v B s i 4)) 68 4 = M 68 4 := by rw [p_u_nk (by omega), x3, if_neg (by omega)]
    have e0 : p_u (p_u (p_u X 68 (30 + 7 * r + 4) (nI (q_v B s i 4))) 68 (30 + 7 * r + 5) (M 68 4)) 68 (30 + 7 * r + 6) (-1) 68 0 = nI r := by rw [p_u_nk (by omega), p_u_nk (by omega), p_u_nk (by omega), x3, if_neg (by omega), hr]
    have k4 : (nI 4).toNatClampNeg = 4 := by decide
    have k0 : (nI 0).toNatClampNeg = 0 := by decide
    unfold f_X12_comes
    simp only [gp_67_0 hG, gp_67_36 hG, Option.bind_some, n_ck (ib (6 * k) (by omega)), kc (6 * k) (by omega), n_let, t0, if_true, n_ck (i8 0 (by decide)), k0, hr, pk_mul, nI_add, n_ck (ib (6 * k + 1) (by omega)), n_ck (ib (6 * k + 2) (by omega)), n_ck (ib (6 * k + 3) (by omega)), n_ck (ib (6 * k + 4) (by omega)), n_ck (ib (6 * k + 5) (by omega)), kc (6 * k + 1) (by omega), kc (6 * k + 2) (by omega), kc (6 * k + 3) (by omega), kc (6 * k + 4) (by omega), kc (6 * k + 5) (by omega), w0, w1, w2, w3, hb1, x1, n_ck (i8 (30 + 7 * r + 4) (by omega)), n_ck (i8 (30 + 7 * r + 5) (by omega)), n_ck (i8 (30 + 7 * r + 6) (by omega)), n_ck (i8 4 (by decide)), kc (30 + 7 * r + 4) (by omega), kc (30 + 7 * r + 5) (by omega), kc (30 + 7 * r + 6) (by omega), k4, x82, w4, e4, e0]
  · funext j
    rw [q_cm_1 g]
    dsimp only
    have hor : (q_v B s i 0 = q_v B s i 2 ∧ q_v B s i 1 ≠ q_v B s i 3) ∨ (q_v B s i 0 ≠ q_v B s i 2 ∧ q_v B s i 1 = q_v B s i 3) := by
      unfold q_crk at hck
      by_cases y1 : q_v B s i 0 = q_v B s i 2 <;> by_cases y2 : q_v B s i 1 = q_v B s i 3
      · rw [decide_eq_true y1, decide_eq_true y2] at hck; cases hck
      · exact Or.inl ⟨y1, y2⟩
      · exact Or.inr ⟨y1, y2⟩
      · rw [decide_eq_false y1, decide_eq_false y2] at hck; cases hck
    rw [hr, nv_nI (by omega)]
    by_cases c1 : 30 + 7 * r ≤ j ∧ j < 30 + 7 * r + 7
    · rw [if_pos c1]
      obtain ⟨d, hd, rfl⟩ : ∃ d, d < 7 ∧ j = 30 + 7 * r + d := ⟨j - (30 + 7 * r), by omega, by omega⟩
      rw [Nat.add_sub_cancel_left]
      unfold q_trw
      rw [if_pos g]
      have h7 : d = 0 ∨ d = 1 ∨ d = 2 ∨ d = 3 ∨ d = 4 ∨ d = 5 ∨ d = 6 := by omega
      have hu : ∀ c, c < 4 → p_u (p_u (p_u (p_u X 68 (30 + 7 * r + 4) (nI (q_v B s i 4))) 68 (30 + 7 * r + 5) (M 68 4)) 68 (30 + 7 * r + 6) (-1)) 68 0 (nI (r + 1)) 68 (30 + 7 * r + c) = nI (q_v B s i (if b = true then (c + 2) % 4 else c)) := fun c hc => by rw [p_u_nk (by omega), p_u_nk (by omega), p_u_nk (by omega), p_u_nk (by omega), x3, if_pos (by omega), Nat.add_sub_cancel_left]
      rcases h7 with h7 | h7 | h7 | h7 | h7 | h7 | h7 <;> subst h7
      · rw [hu 0 (by decide)]
        show _ = nI (min (q_v B s i 0) (q_v B s i 2))
        by_cases hb : b = true
        · rw [if_pos hb]; have := hb2.mp hb; congr 1; show q_v B s i 2 = _; omega
        · rw [if_neg hb]; have : ¬ (q_v B s i 2 < q_v B s i 0 ∨ q_v B s i 3 < q_v B s i 1) := fun h => hb (hb2.mpr h); congr 1; omega
      · rw [hu 1 (by decide)]
        show _ = nI (min (q_v B s i 1) (q_v B s i 3))
        by_cases hb : b = true
        · rw [if_pos hb]; have := hb2.mp hb; congr 1; show q_v B s i 3 = _; omega
        · rw [if_neg hb]; have : ¬ (q_v B s i 2 < q_v B s i 0 ∨ q_v B s i 3 < q_v B s i 1) := fun h => hb (hb2.mpr h); congr 1; omega
      · rw [hu 2 (by decide)]
        show _ = nI (max (q_v B s i 0) (q_v B s i 2))
        by_cases hb : b = true
        · rw [if_pos hb]; have := hb2.mp hb; congr 1; show q_v B s i 0 = _; omega
        · rw [if_neg hb]; have : ¬ (q_v B s i 2 < q_v B s i 0 ∨ q_v B s i 3 < q_v B s i 1) := fun h => hb (hb2.mpr h); congr 1; omega
      · rw [hu 3 (by decide)]
        show _ = nI (max (q_v B s i 1) (q_v B s i 3))
        by_cases hb : b = true
        · rw [if_pos hb]; have := hb2.mp hb; congr 1; show q_v B s i 1 = _; omega
        · rw [if_neg hb]; have : ¬ (q_v B s i 2 < q_v B s i 0 ∨ q_v B s i 3 < q_v B s i 1) := fun h => hb (hb2.mpr h); congr 1; omega
      · rw [p_u_nk (by omega), p_u_nk (by omega), p_u_nk (by omega), p_u_self]; rfl
      · rw [p_u_nk (by omega), p_u_nk (by omega), p_u_self]; rfl
      · rw [p_u_nk (by omega), p_u_self]; rfl
    · rw [if_neg c1]
      by_cases c2 : j = 0
      · rw [if_pos c2, c2, p_u_self]
      · rw [if_neg c2, p_u_nk c2, p_u_nk (by omega), p_u_nk (by omega), p_u_nk (by omega), x3, if_neg (by omega)]
theorem m_comes2 (hG : GW N P) (g : q_wo B s i = 2) (ht : q_tl M B s i k 4) (hk : k ≤ 63) (hr : M 68 1 = nI r) (hr2 : r < 6) (hn : 600 < zn) : ∃ M2, f_X12_comes zn N M P 67 (nI (6 * k)) = some M2 ∧ (∀ x, x ≠ 68 → M2 x = M x) ∧ M2 68 = q_cm B s (M 68) i := by
  obtain ⟨t0, t1⟩ := ht
  rw [g] at t0
  have ib : ∀ j, j < 390 → p_ib N 82 (nI j) = true := fun j hj => n_ib (gn_82 hG) hj (by decide)
  have kc : ∀ j, j < 5000 → (nI j).toNatClampNeg = j := fun j hj => nI_clamp (by omega)
  have i8 : ∀ j, j < 4640 → p_ib N 68 (nI j) = true := fun j hj => ib_68 hG hj
  obtain ⟨X, x1, x2, x3⟩ := m_copy4 (M := M) (zn := zn) (Bd := B_X12_comes_193 N P (nI (120 + 8 * r)) 67 (nI (6 * k))) (base := 120 + 8 * r) (u := fun c => q_v B s i c) (by omega) (fun c hc X y1 y2 rec => by
    have hle : ¬ nI 4 ≤ nI c := nI_ge hc (by omega)
    have hv : X 82 (6 * k + 1 + c) = nI (q_v B s i c) := by rw [y1 82 (by decide)]; exact (t1 c (by omega)).1
    unfold B_X12_comes_193
    simp only [if_neg hle, gp_67_0 hG, gp_67_36 hG, Option.bind_some, nI_add, n_ck (ib (6 * k + 1 + c) (by omega)), n_ck (i8 (120 + 8 * r + c) (by omega)), kc (120 + 8 * r + c) (by omega), kc (6 * k + 1 + c) (by omega), n_let, hv]) (fun X rec => by
    unfold B_X12_comes_193
    simp only [if_pos (show nI 4 ≤ nI 4 by decide)]) hn
  refine ⟨p_u (p_u (p_u (p_u (p_u X 68 (120 + 8 * r + 4) (M 68 4)) 68 (120 + 8 * r + 5) (-1)) 68 (120 + 8 * r + 6) (-1)) 68 (120 + 8 * r + 7) (-1)) 68 1 (nI (r + 1)), ?_, fun x hx => by rw [p_u_ne hx, p_u_ne hx, p_u_ne hx, p_u_ne hx, p_u_ne hx, x2 x hx], ?_⟩
  · have e4 : X 68 4 = M 68 4 := by rw [x3, if_neg (by omega)]
    have e0 : p_u (p_u (p_u (p_u X 68 (120 + 8 * r + 4) (M 68 4)) 68 (120 + 8 * r + 5) (-1)) 68 (120 + 8 * r + 6) (-1)) 68 (120 + 8 * r + 7) (-1) 68 1 = nI r := by rw [p_u_nk (by omega), p_u_nk (by omega), p_u_nk (by omega), p_u_nk (by omega), x3, if_neg (by omega), hr]
    have k4 : (nI 4).toNatClampNeg = 4 := by decide
    have k1 : (nI 1).toNatClampNeg = 1 := by decide
    unfold f_X12_comes
    simp only [gp_67_0 hG, gp_67_36 hG, Option.bind_some, n_ck (ib (6 * k) (by omega)), kc (6 * k) (by omega), n_let, t0, if_neg (show ¬ nI 2 = nI 1 by decide), if_true, n_ck (i8 1 (by decide)), k1, hr, pk_mul, nI_add, x1, n_ck (i8 (120 + 8 * r + 4) (by omega)), n_ck (i8 (120 + 8 * r + 5) (by omega)), n_ck (i8 (120 + 8 * r + 6) (by omega)), n_ck (i8 (120 + 8 * r + 7) (by omega)), n_ck (i8 4 (by decide)), kc (120 + 8 * r + 4) (by omega), kc (120 + 8 * r + 5) (by omega), kc (120 + 8 * r + 6) (by omega), kc (120 + 8 * r + 7) (by omega), k4, e4, e0]
  · funext j
    rw [q_cm_2 g]
    dsimp only
    rw [hr, nv_nI (by omega)]
    by_cases c1 : 120 + 8 * r ≤ j ∧ j < 120 + 8 * r + 8
    · rw [if_pos c1]
      obtain ⟨d, hd, rfl⟩ : ∃ d, d < 8 ∧ j = 120 + 8 * r + d := ⟨j - (120 + 8 * r), by omega, by omega⟩
      rw [Nat.add_sub_cancel_left]
      unfold q_trw
      rw [if_neg (by omega), if_pos g]
      by_cases d4 : d < 4
      · rw [if_pos d4, p_u_nk (by omega), p_u_nk (by omega), p_u_nk (by omega), p_u_nk (by omega), p_u_nk (by omega), x3, if_pos (by omega), Nat.add_sub_cancel_left]
      · rw [if_neg d4]
        have h7 : d = 4 ∨ d = 5 ∨ d = 6 ∨ d = 7 := by omega
        rcases h7 with h7 | h7 | h7 | h7 <;> subst h7
        · rw [p_u_nk (by omega), p_u_nk (by omega), p_u_nk (by omega), p_u_nk (by omega), p_u_self, if_pos rfl]
        · rw [p_u_nk (by omega), p_u_nk (by omega), p_u_nk (by omega), p_u_self, if_neg (by decide)]
        · rw [p_u_nk (by omega), p_u_nk (by omega), p_u_self, if_neg (by decide)]
        · rw [p_u_nk (by omega), p_u_self, if_neg (by decide)]
    · rw [if_neg c1]
      by_cases c2 : j = 1
      · rw [if_pos c2, c2, p_u_self]
      · rw [if_neg c2, p_u_nk c2, p_u_nk (by omega), p_u_nk (by omega), p_u_nk (by omega), p_u_nk (by omega), x3, if_neg (by omega)]
theorem m_comes3 (hG : GW N P) (g : q_wo B s i = 3) (ht : q_tl M B s i k 2) (hk : k ≤ 63) (hr : M 68 3 = nI r) (hr2 : r < 8) : ∃ M2, f_X12_comes zn N M P 67 (nI (6 * k)) = some M2 ∧ (∀ x, x ≠ 68 → M2 x = M x) ∧ M2 68 = q_cm B s (M 68) i := by
  obtain ⟨t0, t1⟩ := ht
  rw [g] at t0
  have w0 : M 82 (6 * k + 1) = nI (q_v B s i 0) := (t1 0 (by decide)).1
  have w1 : M 82 (6 * k + 2) = nI (q_v B s i 1) := (t1 1 (by decide)).1
  have ib : ∀ j, j < 390 → p_ib N 82 (nI j) = true := fun j hj => n_ib (gn_82 hG) hj (by decide)
  have kc : ∀ j, j < 5000 → (nI j).toNatClampNeg = j := fun j hj => nI_clamp (by omega)
  have i8 : ∀ j, j < 4640 → p_ib N 68 (nI j) = true := fun j hj => ib_68 hG hj
  refine ⟨p_u (p_u (p_u M 68 (202 + 2 * r) (nI (q_v B s i 0))) 68 (202 + 2 * r + 1) (nI (q_v B s i 1))) 68 3 (nI (r + 1)), ?_, fun x hx => by rw [p_u_ne hx, p_u_ne hx, p_u_ne hx], ?_⟩
  · have e3 : p_u M 68 (202 + 2 * r) (nI (q_v B s i 0)) 68 3 = nI r := by rw [p_u_nk (by omega), hr]
    have e0 : p_u (p_u M 68 (202 + 2 * r) (nI (q_v B s i 0))) 68 (202 + 2 * r + 1) (nI (q_v B s i 1)) 68 3 = nI r := by rw [p_u_nk (by omega), e3]
    have e82 : p_u M 68 (202 + 2 * r) (nI (q_v B s i 0)) 82 (6 * k + 2) = nI (q_v B s i 1) := by rw [p_u_ne (by decide), w1]
    have k3 : (nI 3).toNatClampNeg = 3 := by decide
    unfold f_X12_comes
    simp only [gp_67_0 hG, gp_67_36 hG, Option.bind_some, n_ck (ib (6 * k) (by omega)), kc (6 * k) (by omega), n_let, t0, if_neg (show ¬ nI 3 = nI 1 by decide), if_neg (show ¬ nI 3 = nI 2 by decide), if_true, n_ck (i8 3 (by decide)), k3, hr, pk_mul, nI_add, n_ck (ib (6 * k + 1) (by omega)), n_ck (ib (6 * k + 2) (by omega)), kc (6 * k + 1) (by omega), kc (6 * k + 2) (by omega), w0, n_ck (i8 (202 + 2 * r) (by omega)), n_ck (i8 (202 + 2 * r + 1) (by omega)), kc (202 + 2 * r) (by omega), kc (202 + 2 * r + 1) (by omega), e3, e82, e0]
  · funext j
    rw [q_cm_3 g]
    dsimp only
    rw [hr, nv_nI (by omega)]
    by_cases c1 : 202 + 2 * r ≤ j ∧ j < 202 + 2 * r + 2
    · rw [if_pos c1]
      unfold q_trw
      rw [if_neg (by omega), if_neg (by omega)]
      by_cases d0 : j = 202 + 2 * r
      · rw [p_u_nk (by omega), p_u_nk (by omega), d0, p_u_self, Nat.sub_self]
      · have d1 : j = 202 + 2 * r + 1 := by omega
        rw [p_u_nk (by omega), d1, p_u_self, Nat.add_sub_cancel_left]
    · rw [if_neg c1]
      by_cases c2 : j = 3
      · rw [if_pos c2, c2, p_u_self]
      · rw [if_neg c2, p_u_nk c2, p_u_nk (by omega), p_u_nk (by omega)]
theorem m_comes4 (hG : GW N P) (g : q_wo B s i = 4) (ht : q_tl M B s i k 4) (hk : k ≤ 63) (hr : M 68 2 = nI r) (hr2 : r < 8) (hn : 600 < zn) : ∃ M2, f_X12_comes zn N M P 67 (nI (6 * k)) = some M2 ∧ (∀ x, x ≠ 68 → M2 x = M x) ∧ M2 68 = q_cm B s (M 68) i := by
  obtain ⟨t0, t1⟩ := ht
  rw [g] at t0
  have ib : ∀ j, j < 390 → p_ib N 82 (nI j) = true := fun j hj => n_ib (gn_82 hG) hj (by decide)
  have kc : ∀ j, j < 5000 → (nI j).toNatClampNeg = j := fun j hj => nI_clamp (by omega)
  have i8 : ∀ j, j < 4640 → p_ib N 68 (nI j) = true := fun j hj => ib_68 hG hj
  have k2 : (nI 2).toNatClampNeg = 2 := by decide
  obtain ⟨X, x1, x2, x3⟩ := m_copy4 (M := M) (zn := zn) (Bd := B_X12_comes_353 N P 67 (nI (6 * k))) (base := 170 + 4 * r) (u := fun c => q_v B s i c) (by omega) (fun c hc X y1 y2 rec => by
    have hle : ¬ nI 4 ≤ nI c := nI_ge hc (by omega)
    have hv : X 82 (6 * k + 1 + c) = nI (q_v B s i c) := by rw [y1 82 (by decide)]; exact (t1 c (by omega)).1
    have h2 : X 68 2 = nI r := by rw [y2 2 (by decide), hr]
    unfold B_X12_comes_353
    simp only [if_neg hle, gp_67_0 hG, gp_67_36 hG, Option.bind_some, n_ck (i8 2 (by decide)), k2, h2, pk_mul, nI_add, n_ck (ib (6 * k + 1 + c) (by omega)), n_ck (i8 (170 + 4 * r + c) (by omega)), kc (170 + 4 * r + c) (by omega), kc (6 * k + 1 + c) (by omega), n_let, hv]) (fun X rec => by
    unfold B_X12_comes_353
    simp only [if_pos (show nI 4 ≤ nI 4 by decide)]) hn
  refine ⟨p_u X 68 2 (nI (r + 1)), ?_, fun x hx => by rw [p_u_ne hx, x2 x hx], ?_⟩
  · have e0 : X 68 2 = nI r := by rw [x3, if_neg (by omega), hr]
    unfold f_X12_comes
    simp only [gp_67_0 hG, gp_67_36 hG, Option.bind_some, n_ck (ib (6 * k) (by omega)), kc (6 * k) (by omega), n_let, t0, if_neg (show ¬ nI 4 = nI 1 by decide), if_neg (show ¬ nI 4 = nI 2 by decide), if_neg (show ¬ nI 4 = nI 3 by decide), x1, n_ck (i8 2 (by decide)), k2, e0, nI_add]
  · funext j
    rw [q_cm_4 g]
    dsimp only
    rw [hr, nv_nI (by omega)]
    by_cases c1 : 170 + 4 * r ≤ j ∧ j < 170 + 4 * r + 4
    · rw [if_pos c1]
      unfold q_trw
      rw [if_neg (by omega), if_neg (by omega), p_u_nk (by omega), x3, if_pos c1]
    · rw [if_neg c1]
      by_cases c2 : j = 2
      · rw [if_pos c2, c2, p_u_self]
      · rw [if_neg c2, p_u_nk c2, x3, if_neg c1]
end Comes
