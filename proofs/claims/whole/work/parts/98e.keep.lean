/-! the invariant's parts hang on what they name -/
theorem q_wfw.of {a b : Nat → Int32} (h : q_wfw a) (e : ∀ zk, zk < 7 → b zk = a zk) : q_wfw b := by
  obtain ⟨h1, h2, h3, h4, h5⟩ := h
  unfold q_wfw
  rw [e 0 (by decide), e 1 (by decide), e 2 (by decide), e 3 (by decide), e 4 (by decide), e 5 (by decide), e 6 (by decide)]
  exact ⟨fun zk hk => by rw [e zk (by omega)]; exact h1 zk hk, h2, h3, h4, h5⟩
theorem q_wfsn.of {a b : Nat → Int32} (h : q_wfsn a) (e : ∀ zk, zk < 7 → b zk = a zk) : q_wfsn b := by
  unfold q_wfsn at h ⊢
  rw [e 0 (by decide), e 1 (by decide), e 2 (by decide), e 3 (by decide), e 4 (by decide), e 5 (by decide), e 6 (by decide)]
  exact h
theorem R_test.of {a b c d : Nat → Int32} (h : R_test a b) (e : ∀ zk, zk < 4 → c zk = a zk) (f : ∀ zk, zk < 4 → d zk = b zk) : R_test c d := by
  unfold R_test at h ⊢
  rw [e 0 (by decide), e 1 (by decide), e 2 (by decide), e 3 (by decide), f 0 (by decide), f 1 (by decide), f 2 (by decide), f 3 (by decide)]
  exact h
section Keep
variable {N : pN} {P : pR} {I J : pI} {b o : Nat}
theorem R_tape.of (h : R_tape N P I b o) (h1 : J (b + 1) = I (b + 1)) (h2 : J (b + 2) = I (b + 2)) (e0 : J 68 (8 + o) = I 68 (8 + o)) (h3 : ∀ zk, 660 ≤ zk → zk < 1160 → J 68 (zk + o) = I 68 (zk + o)) : R_tape N P J b o := by
  obtain ⟨a, t, c⟩ := h
  have ha := a.2
  refine ⟨by rw [e0]; exact a, by rw [e0]; exact t.of (fun zi => by rw [h1]), fun zw hw => ?_⟩
  rw [e0] at hw
  rw [h2, h3 _ (by omega) (by omega)]
  exact c zw hw
theorem R_walls.of (h : R_walls N P I b o) (h1 : J (b + 3) = I (b + 3)) (h2 : J (b + 4) = I (b + 4)) (e0 : J 68 (0 + o) = I 68 (0 + o)) (h3 : ∀ zk, 30 ≤ zk → zk < 114 → J 68 (zk + o) = I 68 (zk + o)) : R_walls N P J b o := by
  obtain ⟨a, t, c⟩ := h
  have ha := a.2
  refine ⟨by rw [e0]; exact a, by rw [e0]; exact t.of (fun zi => by rw [h1]), fun zw hw => ?_⟩
  rw [e0] at hw
  have hc := c zw hw
  exact ⟨fun zk hk => by rw [h2, h3 _ (by omega) (by omega)]; exact hc.1 zk hk, hc.2.of (fun zk hk => h3 _ (by omega) (by omega))⟩
theorem R_senders.of (h : R_senders N P I b o) (h1 : J (b + 5) = I (b + 5)) (h2 : J (b + 6) = I (b + 6)) (e0 : J 68 (1 + o) = I 68 (1 + o)) (h3 : ∀ zk, 120 ≤ zk → zk < 168 → J 68 (zk + o) = I 68 (zk + o)) : R_senders N P J b o := by
  obtain ⟨a, t, c⟩ := h
  have ha := a.2
  refine ⟨by rw [e0]; exact a, by rw [e0]; exact t.of (fun zi => by rw [h1]), fun zw hw => ?_⟩
  rw [e0] at hw
  have hc := c zw hw
  exact ⟨fun zk hk => by rw [h2, h3 _ (by omega) (by omega)]; exact hc.1 zk hk, by rw [h2, h3 _ (by omega) (by omega), h3 _ (by omega) (by omega)]; exact hc.2.1, hc.2.2.of (fun zk hk => h3 _ (by omega) (by omega))⟩
theorem R_sites.of (h : R_sites N P I b o) (h1 : J (b + 7) = I (b + 7)) (h2 : J (b + 8) = I (b + 8)) (e0 : J 68 (2 + o) = I 68 (2 + o)) (h3 : ∀ zk, 170 ≤ zk → zk < 202 → J 68 (zk + o) = I 68 (zk + o)) : R_sites N P J b o := by
  obtain ⟨a, t, c⟩ := h
  have ha := a.2
  refine ⟨by rw [e0]; exact a, by rw [e0]; exact t.of (fun zi => by rw [h1]), fun zw hw => ?_⟩
  rw [e0] at hw
  have hc := c zw hw
  rw [h3 _ (by omega) (by omega), h3 _ (by omega) (by omega), h3 _ (by omega) (by omega), h3 _ (by omega) (by omega)]
  exact ⟨fun zk hk => by rw [h2, h3 _ (by omega) (by omega)]; exact hc.1 zk hk, hc.2⟩
theorem R_needs.of (h : R_needs N P I b o) (h1 : J (b + 9) = I (b + 9)) (h2 : J (b + 10) = I (b + 10)) (e0 : J 68 (3 + o) = I 68 (3 + o)) (h3 : ∀ zk, 202 ≤ zk → zk < 218 → J 68 (zk + o) = I 68 (zk + o)) : R_needs N P J b o := by
  obtain ⟨a, t, c⟩ := h
  have ha := a.2
  refine ⟨by rw [e0]; exact a, by rw [e0]; exact t.of (fun zi => by rw [h1]), fun zw hw zk hk => ?_⟩
  rw [e0] at hw
  rw [h2, h3 _ (by omega) (by omega)]
  exact c zw hw zk hk
theorem R_walk.of (h : R_walk N P I b o) (h1 : J (b + 17) = I (b + 17)) (h2 : J (b + 18) = I (b + 18)) (e0 : J 68 (7 + o) = I 68 (7 + o)) (h3 : ∀ zk, 220 ≤ zk → zk < 340 → J 68 (zk + o) = I 68 (zk + o)) : R_walk N P J b o := by
  obtain ⟨a, t, c⟩ := h
  have ha := a.2
  refine ⟨by rw [e0]; exact a, by rw [e0]; exact t.of (fun zi => by rw [h1]), fun zw hw zk hk => ?_⟩
  rw [e0] at hw
  rw [h2, h3 _ (by omega) (by omega)]
  exact c zw hw zk hk
theorem R_stuffs.of (h : R_stuffs N P I b o) (h1 : J (b + 11) = I (b + 11)) (h2 : J (b + 12) = I (b + 12)) (h3 : ∀ zk, 18 ≤ zk → zk < 28 → J 68 (zk + o) = I 68 (zk + o)) : R_stuffs N P J b o := by
  obtain ⟨t, c⟩ := h
  refine ⟨t.of (fun zi => by rw [h1]), fun zw hw => ?_⟩
  rw [h2, h3 _ (by omega) (by omega), h3 _ (by omega) (by omega)]
  exact c zw hw
theorem R_sets.of (h : R_sets N P I b o) (h1 : J (b + 13) = I (b + 13)) (h2 : J (b + 14) = I (b + 14)) (h3 : ∀ zk, 11 ≤ zk → zk < 18 → J 68 (zk + o) = I 68 (zk + o)) : R_sets N P J b o := by
  obtain ⟨t, c, d⟩ := h
  refine ⟨t.of (fun zi => by rw [h1]), fun zw hw => ?_, by rw [h3 15 (by omega) (by omega), h3 17 (by omega) (by omega)]; exact d⟩
  rw [h2, h3 _ (by omega) (by omega)]
  exact c zw hw
theorem R_lawt.of (h : R_lawt N P I b o) (h1 : J (b + 15) = I (b + 15)) (h2 : J (b + 16) = I (b + 16)) (e0 : J 68 (6 + o) = I 68 (6 + o)) (h3 : ∀ zk, 340 ≤ zk → zk < 660 → J 68 (zk + o) = I 68 (zk + o)) : R_lawt N P J b o := by
  obtain ⟨a, t, c⟩ := h
  have ha := a.2
  refine ⟨by rw [e0]; exact a, by rw [e0]; exact t.of (fun zi => by rw [h1]), fun zw hw => ?_⟩
  rw [e0] at hw
  have hc := c zw hw
  have h4 := hc.1.2
  rw [h2, h3 _ (by omega) (by omega), h3 _ (by omega) (by omega)]
  refine ⟨hc.1, hc.2.1, hc.2.2.1, fun zt ht => (hc.2.2.2 zt ht).of (fun zk hk => rfl) (fun zk hk => h3 _ (by omega) (by omega))⟩
theorem R_flds.of (h : R_flds I b o) (h1 : J b = I b) (e4 : J 68 (4 + o) = I 68 (4 + o)) (e5 : J 68 (5 + o) = I 68 (5 + o)) (e9 : J 68 (9 + o) = I 68 (9 + o)) (e10 : J 68 (10 + o) = I 68 (10 + o)) : R_flds J b o := by
  unfold R_flds at h ⊢
  rw [h1, e4, e5, e9, e10]
  exact h
/-- a State as a whole -/
theorem SR.of (h : SR N P I b o) (h1 : ∀ zq, b ≤ zq → zq < b + 19 → J zq = I zq) (h2 : ∀ zk, zk < 1160 → J 68 (zk + o) = I 68 (zk + o)) : SR N P J b o := by
  obtain ⟨s1, s2, s3, s4, s5, s6, s7, s8, s9, s10⟩ := h
  exact ⟨s1.of (h1 _ (by omega) (by omega)) (h1 _ (by omega) (by omega)) (h2 _ (by omega)) (fun zk a b => h2 _ (by omega)), s2.of (h1 _ (by omega) (by omega)) (h1 _ (by omega) (by omega)) (h2 _ (by omega)) (fun zk a b => h2 _ (by omega)), s3.of (h1 _ (by omega) (by omega)) (h1 _ (by omega) (by omega)) (h2 _ (by omega)) (fun zk a b => h2 _ (by omega)), s4.of (h1 _ (by omega) (by omega)) (h1 _ (by omega) (by omega)) (h2 _ (by omega)) (fun zk a b => h2 _ (by omega)), s5.of (h1 _ (by omega) (by omega)) (h1 _ (by omega) (by omega)) (h2 _ (by omega)) (fun zk a b => h2 _ (by omega)), s6.of (h1 _ (by omega) (by omega)) (h1 _ (by omega) (by omega)) (fun zk a b => h2 _ (by omega)), s7.of (h1 _ (by omega) (by omega)) (h1 _ (by omega) (by omega)) (fun zk a b => h2 _ (by omega)), s8.of (h1 _ (by omega) (by omega)) (h1 _ (by omega) (by omega)) (h2 _ (by omega)) (fun zk a b => h2 _ (by omega)), s9.of (h1 _ (by omega) (by omega)) (h1 _ (by omega) (by omega)) (h2 _ (by omega)) (fun zk a b => h2 _ (by omega)), s10.of (h1 _ (by omega) (by omega)) (h2 _ (by omega)) (h2 _ (by omega)) (h2 _ (by omega)) (h2 _ (by omega))⟩
theorem R_imgs.of (h : R_imgs N P I) (h1 : ∀ zq, 85 < zq → J zq = I zq) (h2 : ∀ zk, 1160 ≤ zk → J 68 zk = I 68 zk) (h3 : J 69 = I 69) : R_imgs N P J := by
  obtain ⟨a, b, c⟩ := h
  refine ⟨fun zk hk => ?_, b, c⟩
  rw [h3]
  rcases a zk hk with g | ⟨zj, g1, g2, g3, g4⟩
  · exact Or.inl g
  · exact Or.inr ⟨zj, g1, g2, g3, g4.of (fun zq x y => h1 zq (by omega)) (fun zk x => h2 _ (by omega))⟩
end Keep
/-! what is listed: the ways sorted by an order of the cells -/
def q_sg4 (p u v : Int64) : Int32 := if 0 ≤ (v - u) - (p * p) then (if ((v - u) - (p * p)) * ((v - u) - (p * p)) ≤ ((4 * p) * p) * u then (if ((4 * p) * p) * u ≤ ((v - u) - (p * p)) * ((v - u) - (p * p)) then nI 0 else nI 1) else -1) else nI 1
def q_cmp (a b c d : Int64) : Int32 := if 0 ≤ ((a + b) - c) - d then q_sg4 (((a + b) - c) - d) ((4 * a) * b) ((4 * c) * d) else - q_sg4 (-(((a + b) - c) - d)) ((4 * c) * d) ((4 * a) * b)
def q_cmpW (x y : qW) : Int32 := q_cmp x.2.2.2.1.toInt64 x.2.2.2.2.1.toInt64 y.2.2.2.1.toInt64 y.2.2.2.2.1.toInt64
/-- into a list that stands from its end: past all that q goes ahead of -/
def q_ins (lt : qW → qW → Bool) (q : qW) : List qW → List qW
  | [] => [q]
  | x :: xs => if lt q x = true then x :: q_ins lt q xs else q :: x :: xs
def q_isr (lt : qW → qW → Bool) (l : List qW) : List qW := l.foldl (fun m q => q_ins lt q m) []
def q_isort (lt : qW → qW → Bool) (l : List qW) : List qW := (q_isr lt l).reverse
def q_ltC (q x : qW) : Bool := !decide (q_cmpW x q ≤ 0)
def q_LS (N : pN) (P : pR) (I : pI) (l m : List qW) : Prop := TB N P I 29 30 169 6 l.length ∧ (∀ zi zq, l[zi]? = some zq → I 30 (zi * 6 + 0) = zq.1 ∧ I 30 (zi * 6 + 1) = zq.2.1 ∧ I 30 (zi * 6 + 2) = zq.2.2.1 ∧ I 30 (zi * 6 + 3) = zq.2.2.2.1 ∧ I 30 (zi * 6 + 4) = zq.2.2.2.2.1 ∧ I 30 (zi * 6 + 5) = zq.2.2.2.2.2) ∧ m.length = l.length ∧ ∀ zi zq, m[zi]? = some zq → ∃ zj, I 31 zi = nI zj ∧ l[zj]? = some zq
def q_alS (A : Nat → Int32) (s x y : Nat) : List qW := q_allC A (A (120 + 8 * s + 0)) (A (120 + 8 * s + 1)) (A (120 + 8 * s + 3)) (nI x) (nI y)
def R_list (N : pN) (P : pR) (I : pI) : Prop := I 44 7 = -1 ∨ ∃ zs zx zy, zs < nv (I 68 1) ∧ zx ≤ 20 ∧ zy ≤ 20 ∧ I 44 7 = nI ((zs * 21 + zy) * 21 + zx) ∧ q_LS N P I (q_alS (I 68) zs zx zy) (q_isort q_ltC (q_alS (I 68) zs zx zy))
/-- the law's draft -/
def R_dr (I : pI) : Prop := I 65 0 = nI 16 ∧ I 65 1 = nI 18 ∧ rg (I 65 3) 16
theorem R_dr.of {I J : pI} (h : R_dr I) (e : J 65 = I 65) : R_dr J := by
  unfold R_dr at h ⊢
  rw [e]
  exact h
def IV (k : Nat) (N : pN) (P : pR) (I : pI) : Prop := GW N P ∧ SR N P I 1 0 ∧ R_imgs N P I ∧ R_find N P I ∧ R_memo k I ∧ R_msig I ∧ R_list N P I ∧ R_dr I
section Keep2
variable {N : pN} {P : pR} {I J : pI} {zk : Nat}
/-- what is scratch may be written -/
theorem IV.scratch (h : IV zk N P I) (e : ∀ zq, zq < 47 ∨ zq = 65 ∨ zq = 68 ∨ zq = 69 ∨ zq = 77 ∨ 85 < zq → J zq = I zq) : IV zk N P J := by
  obtain ⟨h1, h2, h3, h4, h5, h6, h7, h8⟩ := h
  have e68 := e 68 (by decide)
  have e44 := e 44 (by decide)
  refine ⟨h1, h2.of (fun zq a b => e zq (by omega)) (fun zj _ => by rw [e68]), h3.of (fun zq a => e zq (by omega)) (fun zj _ => by rw [e68]) (e 69 (by decide)), ?_, ?_, ?_, ?_, h8.of (e 65 (by decide))⟩
  · obtain ⟨b1, b2, b3, ⟨zr, b4⟩, b5⟩ := h4
    refine ⟨?_, by rw [e68, e 21 (by decide)]; exact b2, by rw [e68, e 21 (by decide)]; exact b3, ⟨zr, b4.of (fun zi => by rw [e 29 (by decide)])⟩, fun zw hw => by rw [e (43 - zw) (by omega)]; exact b5 zw hw⟩
    intro zw hw
    have h3 := b1 zw hw
    unfold q_bar at h3 ⊢
    rw [e68, e (43 - zw) (by omega)]
    exact h3
  · unfold R_memo at h5 ⊢
    rw [e68, e44, e 45 (by decide), e 46 (by decide)]
    exact h5
  · unfold R_msig at h6 ⊢
    rw [e68, e 77 (by decide)]
    exact h6
  · unfold R_list q_LS at h7 ⊢
    rw [e68, e44, e 30 (by decide), e 31 (by decide)]
    rcases h7 with g | ⟨zs, zx, zy, g1, g2, g3, g4, g5, g6⟩
    · exact Or.inl g
    · exact Or.inr ⟨zs, zx, zy, g1, g2, g3, g4, g5.of (fun zi => by rw [e 29 (by decide)]), g6⟩
end Keep2
