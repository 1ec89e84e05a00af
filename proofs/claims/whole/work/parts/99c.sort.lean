/-! sorting rows of numbers -/
theorem y_ins_at {lt : qW → qW → Bool} {q : qW} : ∀ (R : List qW) z, (∀ j x, j < z → R[j]? = some x → lt q x = true) → (∀ x, R[z]? = some x → lt q x = false) → z ≤ R.length → ∀ i, (q_ins lt q R)[i]? = if i < z then R[i]? else if i = z then some q else R[i - 1]? := by
  intro R
  induction R with
  | nil =>
    intro z _ _ hz i
    have hz0 : z = 0 := by
      have : ([] : List qW).length = 0 := rfl
      omega
    subst hz0
    rw [if_neg (Nat.not_lt_zero i)]
    cases i with
    | zero => rfl
    | succ i => rw [if_neg (by omega)]; rfl
  | cons x xs ih =>
    intro z h1 h2 hz i
    cases z with
    | zero =>
      have hx : lt q x = false := h2 x rfl
      unfold q_ins
      rw [hx, if_neg (by decide), if_neg (Nat.not_lt_zero i)]
      cases i with
      | zero => rfl
      | succ i => rw [if_neg (by omega)]; rfl
    | succ z =>
      have hx : lt q x = true := h1 0 x (by omega) rfl
      unfold q_ins
      rw [hx, if_pos rfl]
      cases i with
      | zero => rfl
      | succ i =>
        have h9 := ih z (fun j y hj hy => h1 (j + 1) y (by omega) hy) (fun y hy => h2 y hy) (by have : (x :: xs).length = xs.length + 1 := rfl; omega) i
        show (q_ins lt q xs)[i]? = _
        rw [h9]
        by_cases c1 : i < z
        · rw [if_pos c1, if_pos (show i + 1 < z + 1 by omega)]; rfl
        · rw [if_neg c1, if_neg (show ¬ i + 1 < z + 1 by omega)]
          by_cases c2 : i = z
          · rw [if_pos c2, if_pos (show i + 1 = z + 1 by omega)]
          · rw [if_neg c2, if_neg (show ¬ i + 1 = z + 1 by omega), Nat.add_sub_cancel]
            obtain ⟨i2, rfl⟩ : ∃ i2, i = i2 + 1 := ⟨i - 1, by omega⟩
            rfl
def y_RA (R l : List qW) (f : Nat → Int32) : Prop := ∀ i x, R[i]? = some x → ∃ j, f (R.length - 1 - i) = nI j ∧ l[j]? = some x
theorem y_ins_len {lt : qW → qW → Bool} {q : qW} (R : List qW) : (q_ins lt q R).length = R.length + 1 := (q_ins_perm R).length_eq
theorem y_RA_ins {lt : qW → qW → Bool} {q : qW} {R l : List qW} {f g : Nat → Int32} {z : Nat} (hf : y_RA R l f) (h1 : ∀ j x, j < z → R[j]? = some x → lt q x = true) (h2 : ∀ x, R[z]? = some x → lt q x = false) (hz : z ≤ R.length) (hq : l[R.length]? = some q) (g1 : ∀ i, i < R.length - z → g i = f i) (g2 : g (R.length - z) = nI R.length) (g3 : ∀ i, R.length - z < i → i ≤ R.length → g i = f (i - 1)) : y_RA (q_ins lt q R) l g := by
  intro i x hx
  rw [y_ins_len, Nat.add_sub_cancel]
  rw [y_ins_at R z h1 h2 hz] at hx
  by_cases c1 : i < z
  · rw [if_pos c1] at hx
    obtain ⟨j, j1, j2⟩ := hf i x hx
    refine ⟨j, ?_, j2⟩
    rw [g3 (R.length - i) (by omega) (by omega), show R.length - i - 1 = R.length - 1 - i by omega]
    exact j1
  · rw [if_neg c1] at hx
    by_cases c2 : i = z
    · rw [if_pos c2] at hx
      cases hx
      refine ⟨R.length, ?_, hq⟩
      rw [c2]; exact g2
    · rw [if_neg c2] at hx
      obtain ⟨j, j1, j2⟩ := hf (i - 1) x hx
      have hlt : i - 1 < R.length := by
        apply Nat.lt_of_not_le
        intro g
        rw [List.getElem?_eq_none g] at hx
        cases hx
      refine ⟨j, ?_, j2⟩
      rw [g1 (R.length - i) (by omega), show R.length - i = R.length - 1 - (i - 1) by omega]
      exact j1
theorem y_isr_s {lt : qW → qW → Bool} {l : List qW} {k : Nat} {q : qW} (h : l[k]? = some q) : q_isr lt (l.take (k + 1)) = q_ins lt q (q_isr lt (l.take k)) := by
  unfold q_isr
  rw [List.take_add_one, List.foldl_append, h]
  rfl
theorem y_isr_len {lt : qW → qW → Bool} (l : List qW) : (q_isr lt l).length = l.length := by
  have h := (q_isr_perm (lt := lt) l []).length_eq
  rw [List.append_nil] at h
  exact h
theorem y_RA_m {R l : List qW} {f : Nat → Int32} (h : y_RA R l f) : ∀ i x, R.reverse[i]? = some x → ∃ j, f i = nI j ∧ l[j]? = some x := by
  intro i x hx
  have hlt : i < R.length := by
    apply Nat.lt_of_not_le
    intro g
    rw [List.getElem?_eq_none (by rw [List.length_reverse]; exact g)] at hx
    cases hx
  rw [List.getElem?_reverse hlt] at hx
  obtain ⟨j, j1, j2⟩ := h (R.length - 1 - i) x hx
  refine ⟨j, ?_, j2⟩
  rw [show R.length - 1 - (R.length - 1 - i) = i by omega] at j1
  exact j1
theorem c_lengths (a b c d : Int64) : f_X2_orderOfLengths a b c d = some (q_cmp a b c d) := by
  have h1 : ∀ p u v, f_X2_signOf p u v = some (q_sg4 p u v) := fun p u v => by
    unfold f_X2_signOf q_sg4
    simp only [n_let]
    split
    · split
      · split <;> rfl
      · rfl
    · rfl
  unfold f_X2_orderOfLengths q_cmp
  simp only [h1, Option.bind_some]
  split <;> rfl
theorem m_lengths (a b c d : Int64) : f_X12_compareRoots a b c d = some (q_cmp a b c d) := by
  have h1 : ∀ u p v, f_X12_withMore u p v = some (q_sg4 p u v) := fun u p v => by
    unfold f_X12_withMore q_sg4
    simp only [n_let]
    split
    · split
      · split <;> rfl
      · rfl
    · rfl
  unfold f_X12_compareRoots q_cmp
  simp only [h1, Option.bind_some]
  by_cases h : (a + b - c - d) < 0
  · rw [if_pos h, if_neg (fun g => (q_nlt.mp g) h)]
  · rw [if_neg h, if_pos (q_nlt.mpr h)]
section Sorts
variable {N : pN} {P : pR} {I J : pI} {L : pL} {zk : Nat}
/-- the rows of the finder's table -/
def q_rw (I : pI) (l : List qW) : Prop := ∀ zi zq, l[zi]? = some zq → I 30 (zi * 6 + 0) = zq.1 ∧ I 30 (zi * 6 + 1) = zq.2.1 ∧ I 30 (zi * 6 + 2) = zq.2.2.1 ∧ I 30 (zi * 6 + 3) = zq.2.2.2.1 ∧ I 30 (zi * 6 + 4) = zq.2.2.2.2.1 ∧ I 30 (zi * 6 + 5) = zq.2.2.2.2.2
theorem q_lt_of {l : List qW} {j : Nat} {x : qW} (h : l[j]? = some x) : j < l.length := by
  apply Nat.lt_of_not_le
  intro g
  rw [List.getElem?_eq_none g] at h
  cases h
theorem c_isLonger (hG : GW N P) {l : List qW} (tb : TB N P I 29 30 169 6 l.length) (hr : q_rw I l) {j k : Nat} {x q : qW} (hj : l[j]? = some x) (hk : l[k]? = some q) : f_X2_isLonger N I P 21 (nI j) (nI k) = some (bI (q_ltC q x)) := by
  have lj := q_lt_of hj
  have lk := q_lt_of hk
  obtain ⟨_, _, _, a3, a4, _⟩ := hr j x hj
  obtain ⟨_, _, _, b3, b4, _⟩ := hr k q hk
  have hc : q_cmp x.2.2.2.1.toInt64 x.2.2.2.2.1.toInt64 q.2.2.2.1.toInt64 q.2.2.2.2.1.toInt64 = q_cmpW x q := rfl
  unfold f_X2_isLonger q_ltC
  simp only [gp_21_8 hG, Option.bind_some, tb_get tb lj (show 3 < 6 by decide), tb_get tb lj (show 4 < 6 by decide), tb_get tb lk (show 3 < 6 by decide), tb_get tb lk (show 4 < 6 by decide), a3, a4, b3, b4, c_lengths, hc]
  by_cases h : q_cmpW x q ≤ 0
  · rw [if_pos h, decide_eq_true h]; rfl
  · rw [if_neg h, decide_eq_false h]; rfl
theorem c_sortIn (hG : GW N P) {l : List qW} (hl : l.length ≤ 169) {J : pI} (tb : TB N P J 29 30 169 6 l.length) (hr : q_rw J l) {k : Nat} {q : qW} (hk : l[k]? = some q) (hA : y_RA (q_isr q_ltC (l.take k)) l (J 31)) {zn : Nat} (hn : 200 < zn) : ∃ z X, p_it (B_X2_sort_31 N P (nI k) 21) zn (nI k, J) = some (nI (k - z), X) ∧ z ≤ k ∧ (∀ zq, zq ≠ 31 → X zq = J zq) ∧ (∀ j x, j < z → (q_isr q_ltC (l.take k))[j]? = some x → q_ltC q x = true) ∧ (∀ x, (q_isr q_ltC (l.take k))[z]? = some x → q_ltC q x = false) ∧ (∀ i, i < k - z → X 31 i = J 31 i) ∧ (∀ i, k - z < i → i ≤ k → X 31 i = J 31 (i - 1)) ∧ ∀ i, k < i → X 31 i = J 31 i := by
  have lk := q_lt_of hk
  have hRl : (q_isr q_ltC (l.take k)).length = k := by rw [y_isr_len, List.length_take]; omega
  generalize q_isr q_ltC (l.take k) = R at hA hRl ⊢
  have hloop := p_loopI (B := B_X2_sort_31 N P (nI k) 21) (zJ := fun z (zc : Int32 × pI) => zc.1 = nI (k - z) ∧ (∀ zq, zq ≠ 31 → zc.2 zq = J zq) ∧ (∀ j x, j < z → R[j]? = some x → q_ltC q x = true) ∧ (∀ i, i ≤ k - z → zc.2 31 i = J 31 i) ∧ (∀ i, k - z < i → i ≤ k → zc.2 31 i = J 31 (i - 1)) ∧ ∀ i, k < i → zc.2 31 i = J 31 i) (zE := fun (zt : Int32 × pI) => ∃ z, zt.1 = nI (k - z) ∧ z ≤ k ∧ (∀ zq, zq ≠ 31 → zt.2 zq = J zq) ∧ (∀ j x, j < z → R[j]? = some x → q_ltC q x = true) ∧ (∀ x, R[z]? = some x → q_ltC q x = false) ∧ (∀ i, i < k - z → zt.2 31 i = J 31 i) ∧ (∀ i, k - z < i → i ≤ k → zt.2 31 i = J 31 (i - 1)) ∧ ∀ i, k < i → zt.2 31 i = J 31 i) (zm := k) (zn := zn) (by omega) ?_ ?_ (nI k, J) ⟨rfl, fun _ _ => rfl, fun j x hj => absurd hj (Nat.not_lt_zero j), fun _ _ => rfl, fun i h1 h2 => by omega, fun _ _ => rfl⟩
  · obtain ⟨⟨za, X⟩, k1, z, k2, k3⟩ := hloop
    dsimp only at k2 k3
    subst k2
    exact ⟨z, X, k1, k3⟩
  · rintro z hz ⟨za, X⟩ ⟨e1, e2, e3, e4, e5, e6⟩
    dsimp only at e1 e2 e3 e4 e5 e6
    subst e1
    have hc : ¬ nI (k - z) ≤ 0 := nI_nle (by omega) (by omega)
    have hs : nI (k - z) - nI 1 = nI (k - z - 1) := pk_sub (by omega)
    have ib1 : p_ib N 31 (nI (k - z - 1)) = true := n_ib (gn_31 hG) (show k - z - 1 < 169 by omega) (by decide)
    have ib2 : p_ib N 31 (nI (k - z)) = true := n_ib (gn_31 hG) (show k - z < 169 by omega) (by decide)
    have ic1 : (nI (k - z - 1)).toNatClampNeg = k - z - 1 := nI_clamp (by omega)
    have ic2 : (nI (k - z)).toNatClampNeg = k - z := nI_clamp (by omega)
    obtain ⟨x, hx⟩ : ∃ x, R[z]? = some x := ⟨R[z]'(by omega), List.getElem?_eq_getElem (by omega)⟩
    obtain ⟨j, j1, j2⟩ := hA z x hx
    rw [hRl, show k - 1 - z = k - z - 1 by omega] at j1
    have eX : X 31 (k - z - 1) = nI j := by rw [e4 _ (by omega)]; exact j1
    have tbX : TB N P X 29 30 169 6 l.length := tb.of (fun zi => by rw [e2 29 (by decide)])
    have hrX : q_rw X l := fun zi zq h => by rw [e2 30 (by decide)]; exact hr zi zq h
    have hlg := c_isLonger hG tbX hrX j2 hk
    cases hlt : q_ltC q x with
    | false =>
      rw [hlt] at hlg
      right
      refine ⟨(nI (k - z), X), ⟨z, rfl, by omega, e2, e3, fun y hy => by rw [hx] at hy; cases hy; exact hlt, fun i hi => e4 i (by omega), e5, e6⟩, fun zrec => ?_⟩
      unfold B_X2_sort_31
      simp only [if_neg hc, gp_21_9 hG, Option.bind_some, hs, n_ck ib1, ic1, eX, hlg, bI_iff]
    | true =>
      rw [hlt] at hlg
      left
      have hm1 : nI (k - z) + (-1) = nI (k - (z + 1)) := by
        rw [show k - z = (k - (z + 1)) + 1 by omega]
        exact pk_m1 _
      refine ⟨(nI (k - (z + 1)), p_u X 31 (k - z) (nI j)), ⟨rfl, fun zq hq => by dsimp only; rw [p_u_ne hq, e2 zq hq], fun j2 y hj2 hy => ?_, fun i hi => ?_, fun i h1 h2 => ?_, fun i hi => ?_⟩, fun zrec => ?_⟩
      · by_cases hz2 : j2 = z
        · rw [hz2, hx] at hy; cases hy; exact hlt
        · exact e3 j2 y (by omega) hy
      · dsimp only; rw [p_u_nk (by omega), e4 i (by omega)]
      · dsimp only
        by_cases hi : i = k - z
        · rw [hi, p_u_self]; exact j1.symm
        · rw [p_u_nk hi, e5 i (by omega) h2]
      · dsimp only; rw [p_u_nk (by omega), e6 i hi]
      · unfold B_X2_sort_31
        simp only [if_neg hc, gp_21_9 hG, Option.bind_some, hs, n_ck ib1, n_ck ib2, ic1, ic2, eX, hlg, bI_ift, n_let, hm1]
  · rintro ⟨za, X⟩ ⟨e1, e2, e3, e4, e5, e6⟩
    dsimp only at e1 e2 e3 e4 e5 e6
    subst e1
    refine ⟨(nI (k - k), X), ⟨k, rfl, Nat.le_refl _, e2, e3, fun (x : qW) (hx : R[k]? = some x) => (by rw [List.getElem?_eq_none (by omega)] at hx; cases hx), fun i hi => e4 i (by omega), e5, e6⟩, fun zrec => ?_⟩
    have hc : nI (k - k) ≤ 0 := by rw [Nat.sub_self]; decide
    unfold B_X2_sort_31
    simp only [if_pos hc]
theorem c_sort (hG : GW N P) {l : List qW} (hl : l.length ≤ 169) {J : pI} (tb : TB N P J 29 30 169 6 l.length) (hr : q_rw J l) (h31 : ∀ zi, zi < l.length → J 31 zi = nI zi) {zn : Nat} (hn : 200 < zn) : ∃ X, f_X2_sort zn N J P 21 = some X ∧ (∀ zq, zq ≠ 31 → X zq = J zq) ∧ q_LS N P X l (q_isort q_ltC l) := by
  have hloop := p_loopI (B := B_X2_sort_2 zn N P 21) (zJ := fun zj (zc : Int32 × pI) => zc.1 = nI (zj + 1) ∧ (∀ zq, zq ≠ 31 → zc.2 zq = J zq) ∧ y_RA (q_isr q_ltC (l.take (zj + 1))) l (zc.2 31) ∧ ∀ i, zj + 1 ≤ i → i < l.length → zc.2 31 i = nI i) (zE := fun X => (∀ zq, zq ≠ 31 → X zq = J zq) ∧ y_RA (q_isr q_ltC l) l (X 31)) (zm := l.length - 1) (zn := zn) (by omega) ?_ ?_ (nI 1, J) ⟨rfl, fun _ _ => rfl, ?_, fun i _ hi => h31 i hi⟩
  · obtain ⟨X, k1, k2, k3⟩ := hloop
    refine ⟨X, ?_, k2, tb.of (fun zi => by rw [k2 29 (by decide)]), fun zi zq h => by rw [k2 30 (by decide)]; exact hr zi zq h, ?_, y_RA_m k3⟩
    · unfold f_X2_sort
      rw [k1, Option.bind_some]
    · unfold q_isort
      rw [List.length_reverse, y_isr_len]
  · rintro zj hj ⟨za, X⟩ ⟨e1, e2, e3, e4⟩
    dsimp only at e1 e2 e3 e4
    subst e1
    left
    have hlt : zj + 1 < l.length := by omega
    obtain ⟨q, hq⟩ : ∃ q, l[zj + 1]? = some q := ⟨l[zj + 1]'hlt, List.getElem?_eq_getElem hlt⟩
    have tbX : TB N P X 29 30 169 6 l.length := tb.of (fun zi => by rw [e2 29 (by decide)])
    have hrX : q_rw X l := fun zi zq h => by rw [e2 30 (by decide)]; exact hr zi zq h
    obtain ⟨z, Y, y1, y2, y3, y4, y5, y6, y7, y8⟩ := c_sortIn hG hl tbX hrX hq e3 (zn := zn) hn
    have hc1 : ¬ nI l.length ≤ nI (zj + 1) := nI_ge hlt (by omega)
    have hc2 : ¬ nI (N.2 31).2 ≤ nI (zj + 1) := by rw [gn_31 hG]; exact nI_ge (by omega) (by decide)
    have ib1 : p_ib N 31 (nI (zj + 1)) = true := n_ib (gn_31 hG) (show zj + 1 < 169 by omega) (by decide)
    have ic1 : (nI (zj + 1)).toNatClampNeg = zj + 1 := nI_clamp (by omega)
    have ib2 : p_ib N 31 (nI (zj + 1 - z)) = true := n_ib (gn_31 hG) (show zj + 1 - z < 169 by omega) (by decide)
    have ic2 : (nI (zj + 1 - z)).toNatClampNeg = zj + 1 - z := nI_clamp (by omega)
    have hRl : (q_isr q_ltC (l.take (zj + 1))).length = zj + 1 := by rw [y_isr_len, List.length_take]; omega
    refine ⟨(nI (zj + 1 + 1), p_u Y 31 (zj + 1 - z) (nI (zj + 1))), ⟨rfl, fun zq hq => by dsimp only; rw [p_u_ne hq, y3 zq hq, e2 zq hq], ?_, fun i h1 h2 => ?_⟩, fun zrec => ?_⟩
    · dsimp only
      rw [y_isr_s hq]
      refine y_RA_ins (f := X 31) (z := z) e3 y4 y5 (by omega) (by rw [hRl]; exact hq) (fun i hi => ?_) ?_ (fun i h1 h2 => ?_)
      · rw [hRl] at hi
        rw [p_u_nk (by omega), y6 i hi]
      · rw [hRl, p_u_self]
      · rw [hRl] at h1 h2
        rw [p_u_nk (by omega), y7 i h1 h2]
    · dsimp only
      rw [p_u_nk (by omega), y8 i (by omega)]
      exact e4 i (by omega) h2
    · unfold B_X2_sort_2
      simp only [gp_21_8 hG, gp_21_9 hG, Option.bind_some, tb_size tbX, if_neg hc1, if_neg hc2, n_ck ib1, ic1, n_let, e4 (zj + 1) (Nat.le_refl _) hlt, y1, n_ck ib2, ic2, nI_add]
  · rintro ⟨za, X⟩ ⟨e1, e2, e3, e4⟩
    dsimp only at e1 e2 e3 e4
    subst e1
    have tbX : TB N P X 29 30 169 6 l.length := tb.of (fun zi => by rw [e2 29 (by decide)])
    have hc1 : nI l.length ≤ nI (l.length - 1 + 1) := nI_le (by omega) (by omega)
    rw [List.take_of_length_le (by omega)] at e3
    refine ⟨X, ⟨e2, e3⟩, fun zrec => ?_⟩
    unfold B_X2_sort_2
    simp only [gp_21_8 hG, Option.bind_some, tb_size tbX, if_pos hc1]
  · cases l with
    | nil =>
      intro i x hx
      exact absurd hx (by intro h; cases h)
    | cons y ys =>
      have e : q_isr q_ltC ((y :: ys).take (0 + 1)) = [y] := rfl
      dsimp only
      rw [e]
      intro i x hx
      cases i with
      | zero =>
        cases hx
        exact ⟨0, h31 0 (by show 0 < ys.length + 1; omega), rfl⟩
      | succ i => cases hx
end Sorts
