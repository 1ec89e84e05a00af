/-! the first breach -/
theorem p_loopR {S0 S T : Type} {B : (S0 → Option T) → (S → Option T) → S → Option T} {zJ : Nat → S → Prop} {zE : T ⊕ S0 → Prop} {zm zn : Nat} (hn1 : zm < zn) (hstep : ∀ zk, zk < zm → ∀ zs, zJ zk zs → (∃ zs2, zJ (zk + 1) zs2 ∧ ∀ zr0 zrec, B zr0 zrec zs = zrec zs2) ∨ ∃ zx, zE zx ∧ ∀ zr0 zrec, B zr0 zrec zs = Sum.elim some zr0 zx) (hend : ∀ zs, zJ zm zs → ∃ zx, zE zx ∧ ∀ zr0 zrec, B zr0 zrec zs = Sum.elim some zr0 zx) : ∀ zs, zJ 0 zs → ∃ zx, zE zx ∧ ∀ zr0, p_it (B zr0) zn zs = Sum.elim some zr0 zx := by
  have hmain : ∀ (zd zk zn2 : Nat), zk + zd = zm → zd < zn2 → ∀ zs, zJ zk zs → ∃ zx, zE zx ∧ ∀ zr0, p_it (B zr0) zn2 zs = Sum.elim some zr0 zx := by
    intro zd
    induction zd with
    | zero =>
      intro zk zn2 hk1 hn2 zs hj1
      have ek : zk = zm := by omega
      rw [ek] at hj1
      obtain ⟨zx, ht1, ht2⟩ := hend zs hj1
      obtain ⟨zn3, rfl⟩ : ∃ zn3, zn2 = zn3 + 1 := ⟨zn2 - 1, by omega⟩
      exact ⟨zx, ht1, fun zr0 => ht2 zr0 _⟩
    | succ zd ih =>
      intro zk zn2 hk1 hn2 zs hj1
      obtain ⟨zn3, rfl⟩ : ∃ zn3, zn2 = zn3 + 1 := ⟨zn2 - 1, by omega⟩
      rcases hstep zk (by omega) zs hj1 with ⟨zs2, hs1, hs2⟩ | ⟨zx, ht1, ht2⟩
      · obtain ⟨zx, ht1, ht2⟩ := ih (zk + 1) zn3 (by omega) (by omega) zs2 hs1
        exact ⟨zx, ht1, fun zr0 => by show B zr0 (p_it (B zr0) zn3) zs = _; rw [hs2]; exact ht2 zr0⟩
      · exact ⟨zx, ht1, fun zr0 => ht2 zr0 _⟩
  intro zs hj1
  exact hmain zm 0 zn (by omega) (by omega) zs hj1
def q_bad (A : Nat → Int32) (hour : Int32) (s : Nat) : Bool := q_st A (nI s) && (!decide (q_line A s hour < 0) && decide (A (340 + 20 * nv (q_line A s hour) + 17) = nI 20))
def q_b1 (A : Nat → Int32) (hour : Int32) : Nat → Nat → Option Nat
  | 0, _ => none
  | zd + 1, s => if q_bad A hour s = true then some s else q_b1 A hour zd (s + 1)
theorem q_b1_s {A : Nat → Int32} {hour : Int32} {zd s : Nat} : q_b1 A hour (zd + 1) s = if q_bad A hour s = true then some s else q_b1 A hour zd (s + 1) := rfl
theorem q_b1_n {A : Nat → Int32} {hour : Int32} : ∀ zd s, (∀ j, s ≤ j → j < s + zd → q_bad A hour j = false) → q_b1 A hour zd s = none := by
  intro zd
  induction zd with
  | zero => intro s _; rfl
  | succ zd ih =>
    intro s h
    rw [q_b1_s, h s (Nat.le_refl _) (by omega), if_neg (by decide)]
    exact ih (s + 1) (fun j a b => h j (by omega) (by omega))
theorem q_b1_lt {A : Nat → Int32} {hour : Int32} : ∀ zd s j, q_b1 A hour zd s = some j → s ≤ j ∧ j < s + zd := by
  intro zd
  induction zd with
  | zero => intro s j h; cases h
  | succ zd ih =>
    intro s j h
    rw [q_b1_s] at h
    split at h
    · cases h; omega
    · have := ih (s + 1) j h; omega
def q_bh (A : Nat → Int32) : Nat → Nat → Option (Nat × Nat)
  | 0, _ => none
  | zd + 1, h => match q_b1 A (nI h) 6 0 with
    | some s => some (h, s)
    | none => q_bh A zd (h + 1)
theorem q_bh_s {A : Nat → Int32} {zd h s : Nat} (e : q_b1 A (nI h) 6 0 = some s) : q_bh A (zd + 1) h = some (h, s) := by
  show (match q_b1 A (nI h) 6 0 with
    | some s => some (h, s)
    | none => q_bh A zd (h + 1)) = _
  rw [e]
theorem q_bh_n {A : Nat → Int32} {zd h : Nat} (e : q_b1 A (nI h) 6 0 = none) : q_bh A (zd + 1) h = q_bh A zd (h + 1) := by
  show (match q_b1 A (nI h) 6 0 with
    | some s => some (h, s)
    | none => q_bh A zd (h + 1)) = _
  rw [e]
section Breach
variable {N : pN} {P : pR} {I J : pI} {L : pL} {zk : Nat}
/-- a sender in an hour -/
theorem c_bad (hG : GW N P) (h : cK zk N P I J) (h54 : ∀ zi, zi < 6 → q_st (I 68) (nI zi) = true → J 54 zi = q_lou (I 68) zi) {zs zn : Nat} (hs : zs < 6) (hn : 200 < zn) (hour : Int32) : ∃ v, (Option.bind (α := Int32) ((if bI (q_st (I 68) (nI zs)) = 0 then some (-1) else Option.bind (f_X1_lineFor zn N J P 53 (nI zs) hour) fun q18 => some q18)) fun t16 => f_X8_get N J P 16 t16 (nI 0)) = some v ∧ ((v = nI 1) ↔ q_bad (I 68) hour zs = true) := by
  have r1 := h.n1
  have r6 : rg (I 68 6) 16 := by rw [← h.2.e68]; exact h.sr.rl.1
  have h16 := r6.2
  have tb : TB N P J 16 17 16 18 (nv (I 68 6)) := by
    have h9 := h.sr.rl.2.1
    rw [h.2.e68] at h9; exact h9
  have hneg : ∀ x : Int32, x = -1 → f_X8_get N J P 16 x (nI 0) = some (-1) := fun x e => by rw [e]; exact tb_get_n tb (Or.inl (by decide))
  unfold q_bad
  cases hst : q_st (I 68) (nI zs) with
  | false =>
    refine ⟨-1, ?_, ?_⟩
    · rw [bI_iff, Option.bind_some]; exact hneg _ rfl
    · rw [Bool.false_and]; decide
  | true =>
    have hlt := q_st_lt r1 (by omega) hst
    have hl := c_lineFor hG h.sr (zs := zs) (zn := zn) (by rw [h.2.e68]; exact hlt) (by rw [h.2.e68]; exact h54 zs hs hst) hn hour
    rw [h.2.e68] at hl
    rw [bI_ift, hl, Option.bind_some, Option.bind_some, Bool.true_and]
    rcases q_ln_i (A := I 68) (s := zs) (hour := hour) (nv (I 68 6)) 0 with e | ⟨zj, _, e2, e3⟩
    · have e : q_line (I 68) zs hour = -1 := e
      refine ⟨-1, hneg _ e, ?_⟩
      rw [e]
      constructor
      · intro h; exact absurd h (by decide)
      · intro h
        rw [decide_eq_true (show (-1 : Int32) < 0 by decide), Bool.not_true, Bool.false_and] at h
        cases h
    · have e3 : q_line (I 68) zs hour = nI zj := e3
      have hlaw := (sr_law h.sr (zl := zj) (by rw [h.2.e68]; omega)).2.2.1
      rw [h.2.e68] at hlaw
      refine ⟨J 17 (zj * 18 + 0), by rw [e3]; exact tb_get tb (by omega) (show 0 < 18 by decide), ?_⟩
      rw [e3, nv_nI (zk := zj) (by omega), decide_eq_false (nI_pos (show zj < 2 ^ 31 by omega)), Bool.not_false, Bool.true_and, decide_eq_true_iff]
      rcases hlaw with ⟨g1, g2⟩ | ⟨g1, g2⟩
      · rw [g1, g2]; exact ⟨fun _ => rfl, fun _ => rfl⟩
      · rw [g1, g2]
        constructor
        · intro h; exact absurd h (by decide)
        · intro h; exact absurd h (by decide)
theorem c_findBreach (h : IV zk N P I) {zn : Nat} (hn : 200 < zn) : ∃ J K, f_X1_findBreach zn N I L P 53 = some (J, K) ∧ cK zk N P I J ∧ ((q_bh (I 68) 24 0 = none ∧ J 53 3 = -1 ∧ J 53 4 = -1) ∨ ∃ zh zs, q_bh (I 68) 24 0 = some (zh, zs) ∧ J 53 3 = nI zh ∧ J 53 4 = nI zs) := by
  have hG := h.gw
  have h0 : cK zk N P I (p_u (p_u I 53 3 (-1)) 53 4 (-1)) := ⟨h.scratch (fun zq hq => by rw [p_u_ne (by omega), p_u_ne (by omega)]), fun zq a b c d e => by rw [p_u_ne (by omega), p_u_ne (by omega)]⟩
  obtain ⟨J0, K0, a1, a2, a3, a4⟩ := c_hearSenders (L := L) h0 hn
  have b3 : J0 53 3 = -1 := by rw [a4, p_u_nk (by decide), p_u_self]
  have b4 : J0 53 4 = -1 := by rw [a4, p_u_self]
  have hupd : ∀ {X : pI}, (∀ zq, zq ≠ 53 → X zq = J0 zq) → cK zk N P I X := fun {X} e => ⟨a2.1.scratch (fun zq hq => e zq (by omega)), a2.2.tr (fun zq a b c d f => e zq (by omega))⟩
  have hinner : ∀ zh, zh < 24 → ∀ X : pI, (∀ zq, zq ≠ 53 → X zq = J0 zq) → X 53 3 = -1 → X 53 4 = -1 → ∃ X2, p_it (B_X1_findBreach_32 zn N P 53 (nI zh)) zn (nI 0, X) = some X2 ∧ (∀ zq, zq ≠ 53 → X2 zq = J0 zq) ∧ ((q_b1 (I 68) (nI zh) 6 0 = none ∧ X2 53 3 = -1 ∧ X2 53 4 = -1) ∨ ∃ zs, q_b1 (I 68) (nI zh) 6 0 = some zs ∧ X2 53 3 = nI zh ∧ X2 53 4 = nI zs) := by
    intro zh hh X hX x3 x4
    obtain ⟨zR, hR⟩ : ∃ zR, zR = q_b1 (I 68) (nI zh) 6 0 := ⟨_, rfl⟩
    rw [← hR]
    refine p_loopI (B := B_X1_findBreach_32 zn N P 53 (nI zh)) (zJ := fun zj (zc : Int32 × pI) => zc.1 = nI zj ∧ (∀ zq, zq ≠ 53 → zc.2 zq = J0 zq) ∧ ((zR = q_b1 (I 68) (nI zh) (6 - zj) zj ∧ zc.2 53 3 = -1 ∧ zc.2 53 4 = -1) ∨ ∃ zs, zR = some zs ∧ zc.2 53 3 = nI zh ∧ zc.2 53 4 = nI zs)) (zE := fun X2 => (∀ zq, zq ≠ 53 → X2 zq = J0 zq) ∧ ((zR = none ∧ X2 53 3 = -1 ∧ X2 53 4 = -1) ∨ ∃ zs, zR = some zs ∧ X2 53 3 = nI zh ∧ X2 53 4 = nI zs)) (zm := 6) (zn := zn) (by omega) ?_ ?_ (nI 0, X) ⟨rfl, hX, Or.inl ⟨hR, x3, x4⟩⟩
    · rintro zj hj ⟨za, Y⟩ ⟨e1, e2, e3⟩
      dsimp only at e1 e2 e3
      subst e1
      have hc : ¬ nI 6 ≤ nI zj := nI_ge hj (by decide)
      rcases e3 with ⟨f1, f2, f3⟩ | ⟨zs, f1, f2, f3⟩
      · left
        have hY := hupd e2
        rw [show 6 - zj = (6 - (zj + 1)) + 1 by omega, q_b1_s] at f1
        obtain ⟨v, v1, v2⟩ := c_bad hG hY (fun zi hi hst => by rw [e2 54 (by decide)]; exact a3 zi hi hst) hj hn (nI zh)
        have hB : ∀ zrec, B_X1_findBreach_32 zn N P 53 (nI zh) zrec (nI zj, Y) = zrec (nI (zj + 1), if v = nI 1 then p_u (p_u Y 53 3 (nI zh)) 53 4 (nI zj) else Y) := fun zrec => by
          unfold B_X1_findBreach_32
          simp only [if_neg hc, if_pos f2, gp_53_0 hG, gp_1_7 hG, Option.bind_some, hY.stands, n_let, nI_add]
          generalize (if bI (q_st (I 68) (nI zj)) = 0 then some (-1) else Option.bind (f_X1_lineFor zn N Y P 53 (nI zj) (nI zh)) fun q18 => some q18) = zo at v1 ⊢
          cases zo with
          | none => cases v1
          | some zw =>
            simp only [Option.bind_some] at v1 ⊢
            rw [v1, Option.bind_some]
            split
            · rw [Option.bind_some]
            · rw [Option.bind_some]
        cases hb : q_bad (I 68) (nI zh) zj with
        | true =>
          rw [hb, if_pos rfl] at f1
          have hv := v2.mpr hb
          refine ⟨(nI (zj + 1), p_u (p_u Y 53 3 (nI zh)) 53 4 (nI zj)), ⟨rfl, fun zq hq => by dsimp only; rw [p_u_ne hq, p_u_ne hq, e2 zq hq], Or.inr ⟨zj, f1, ?_, ?_⟩⟩, fun zrec => by rw [hB, if_pos hv]⟩
          · dsimp only; rw [p_u_nk (by decide), p_u_self]
          · dsimp only; rw [p_u_self]
        | false =>
          rw [hb, if_neg (by decide)] at f1
          have hv : ¬ v = nI 1 := fun e => by rw [v2.mp e] at hb; cases hb
          exact ⟨(nI (zj + 1), Y), ⟨rfl, e2, Or.inl ⟨f1, f2, f3⟩⟩, fun zrec => by rw [hB, if_neg hv]⟩
      · right
        have hne : ¬ Y 53 3 = -1 := by rw [f2]; exact n_neg1 (by omega)
        refine ⟨Y, ⟨e2, Or.inr ⟨zs, f1, f2, f3⟩⟩, fun zrec => ?_⟩
        unfold B_X1_findBreach_32
        simp only [if_neg hc, if_neg hne]
    · rintro ⟨za, Y⟩ ⟨e1, e2, e3⟩
      dsimp only at e1 e2 e3
      subst e1
      refine ⟨Y, ⟨e2, e3⟩, fun zrec => ?_⟩
      unfold B_X1_findBreach_32
      simp only [if_pos (Int32.le_refl (nI 6))]
  obtain ⟨zR, hR⟩ : ∃ zR, zR = q_bh (I 68) 24 0 := ⟨_, rfl⟩
  rw [← hR]
  have hloop := p_loopI (B := B_X1_findBreach_16 zn N P 53) (zJ := fun zj (zc : Int32 × pI) => zc.1 = nI zj ∧ (∀ zq, zq ≠ 53 → zc.2 zq = J0 zq) ∧ ((zR = q_bh (I 68) (24 - zj) zj ∧ zc.2 53 3 = -1 ∧ zc.2 53 4 = -1) ∨ ∃ zh zs, zh < 24 ∧ zR = some (zh, zs) ∧ zc.2 53 3 = nI zh ∧ zc.2 53 4 = nI zs)) (zE := fun X2 => (∀ zq, zq ≠ 53 → X2 zq = J0 zq) ∧ ((zR = none ∧ X2 53 3 = -1 ∧ X2 53 4 = -1) ∨ ∃ zh zs, zR = some (zh, zs) ∧ X2 53 3 = nI zh ∧ X2 53 4 = nI zs)) (zm := 24) (zn := zn) (by omega) ?_ ?_ (nI 0, J0) ⟨rfl, fun _ _ => rfl, Or.inl ⟨hR, b3, b4⟩⟩
  · obtain ⟨J, l1, l2, l3⟩ := hloop
    refine ⟨J, K0, ?_, hupd l2, l3⟩
    unfold f_X1_findBreach
    simp only [n_let, a1, Option.bind_some, l1]
  · rintro zj hj ⟨za, Y⟩ ⟨e1, e2, e3⟩
    dsimp only at e1 e2 e3
    subst e1
    have hc : ¬ nI 24 ≤ nI zj := nI_ge hj (by decide)
    rcases e3 with ⟨f1, f2, f3⟩ | ⟨zh, zs, f0, f1, f2, f3⟩
    · left
      rw [show 24 - zj = (24 - (zj + 1)) + 1 by omega] at f1
      obtain ⟨X2, x1, x2, x3⟩ := hinner zj hj Y e2 f2 f3
      refine ⟨(nI (zj + 1), X2), ⟨rfl, x2, ?_⟩, fun zrec => ?_⟩
      · rcases x3 with ⟨g1, g2, g3⟩ | ⟨zs, g1, g2, g3⟩
        · rw [q_bh_n g1] at f1
          exact Or.inl ⟨f1, g2, g3⟩
        · rw [q_bh_s g1] at f1
          exact Or.inr ⟨zj, zs, hj, f1, g2, g3⟩
      · unfold B_X1_findBreach_16
        simp only [if_neg hc, if_pos f2, x1, Option.bind_some, nI_add]
    · right
      have hne : ¬ Y 53 3 = -1 := by rw [f2]; exact n_neg1 (by omega)
      refine ⟨Y, ⟨e2, Or.inr ⟨zh, zs, f1, f2, f3⟩⟩, fun zrec => ?_⟩
      unfold B_X1_findBreach_16
      simp only [if_neg hc, if_neg hne]
  · rintro ⟨za, Y⟩ ⟨e1, e2, e3⟩
    dsimp only at e1 e2 e3
    subst e1
    refine ⟨Y, ⟨e2, ?_⟩, fun zrec => ?_⟩
    · rcases e3 with ⟨f1, f2, f3⟩ | ⟨zh, zs, _, f1, f2, f3⟩
      · exact Or.inl ⟨f1, f2, f3⟩
      · exact Or.inr ⟨zh, zs, f1, f2, f3⟩
    · unfold B_X1_findBreach_16
      simp only [if_pos (Int32.le_refl (nI 24))]
theorem m_breach (h : IV zk N P I) {zn : Nat} (hn : 200 < zn) {x1 : Int32} (hx : x1 = nI 0 ∨ x1 = nI 1) : ∃ v J K, f_X12_breach zn N I L P 67 x1 = some (v, J, K) ∧ mK zk N P I J ∧ ((q_bh (I 68) 24 0 = none ∧ v = -1) ∨ ∃ zh zs, q_bh (I 68) 24 0 = some (zh, zs) ∧ v = if x1 = 0 then nI zh else nI zs) := by
  have hG := h.gw
  have r1 := h.n1
  have h6 := r1.2
  have r6 : rg (I 68 6) 16 := h.sr.rl.1
  have h16 := r6.2
  have i1 : p_ib N 68 (nI 1) = true := ib_68 hG (by decide)
  have k1 : (nI 1).toNatClampNeg = 1 := by decide
  have hin : f_X12_isIn x1 (nI 0) (nI 1) = some (bI true) := by
    rw [m_isIn]
    rcases hx with hx | hx <;> subst hx <;> decide
  have hinner : ∀ zh, zh < 24 → ∀ X Y, mK zk N P I X → ∃ zx : (Int32 × pI × pL) ⊕ (Int32 × pI × pL), ((q_b1 (I 68) (nI zh) 6 0 = none ∧ ∃ X2 Y2, zx = Sum.inr (nI (zh + 1), X2, Y2) ∧ mK zk N P I X2) ∨ ∃ zs X2 Y2, q_b1 (I 68) (nI zh) 6 0 = some zs ∧ zx = Sum.inl (if x1 = 0 then nI zh else nI zs, X2, Y2) ∧ mK zk N P I X2) ∧ ∀ zr0, p_it (B_X12_breach_19 zn N P zr0 67 x1 (nI zh)) zn (nI 0, X, Y) = Sum.elim some zr0 zx := by
    intro zh hh X Y hX
    obtain ⟨zR, hR⟩ : ∃ zR, zR = q_b1 (I 68) (nI zh) 6 0 := ⟨_, rfl⟩
    rw [← hR]
    refine p_loopR (B := fun zr0 => B_X12_breach_19 zn N P zr0 67 x1 (nI zh)) (zJ := fun zj (zc : Int32 × pI × pL) => zc.1 = nI zj ∧ mK zk N P I zc.2.1 ∧ zR = q_b1 (I 68) (nI zh) (6 - zj) zj) (zE := fun zx => (zR = none ∧ ∃ X2 Y2, zx = Sum.inr (nI (zh + 1), X2, Y2) ∧ mK zk N P I X2) ∨ ∃ zs X2 Y2, zR = some zs ∧ zx = Sum.inl (if x1 = 0 then nI zh else nI zs, X2, Y2) ∧ mK zk N P I X2) (zm := nv (I 68 1)) (zn := zn) (by omega) ?_ ?_ (nI 0, X, Y) ⟨rfl, hX, hR⟩
    · rintro zj hj ⟨za, J, K⟩ ⟨e1, e3, e2⟩
      dsimp only at e1 e3 e2
      subst e1
      have hc : ¬ J 68 1 ≤ nI zj := by rw [e3.2.e68, r1.1]; exact nI_ge hj (by omega)
      rw [show 6 - zj = (6 - (zj + 1)) + 1 by omega, q_b1_s] at e2
      unfold q_bad at e2
      cases hst : q_st (I 68) (nI zj) with
      | false =>
        rw [hst, Bool.false_and, if_neg (by decide)] at e2
        left
        refine ⟨(nI (zj + 1), J, K), ⟨rfl, e3, e2⟩, fun zr0 zrec => ?_⟩
        unfold B_X12_breach_19
        simp only [gp_67_0 hG, Option.bind_some, n_ck i1, k1, if_neg hc, e3.sees, hst, bI_iff, nI_add]
      | true =>
        rw [hst, Bool.true_and] at e2
        obtain ⟨J2, K2, j1, j2⟩ := m_lineOf (L := K) e3 hj hn (nI zh)
        rcases q_ln_i (A := I 68) (s := zj) (hour := nI zh) (nv (I 68 6)) 0 with e | ⟨zl, _, l2, l3⟩
        · have e : q_line (I 68) zj (nI zh) = -1 := e
          have hneg : (-1 : Int32) < 0 := by decide
          rw [e] at j1
          rw [e, decide_eq_true hneg, Bool.not_true, Bool.false_and, if_neg (by decide)] at e2
          left
          refine ⟨(nI (zj + 1), J2, K2), ⟨rfl, j2, e2⟩, fun zr0 zrec => ?_⟩
          unfold B_X12_breach_19
          simp only [gp_67_0 hG, Option.bind_some, n_ck i1, k1, if_neg hc, e3.sees, hst, bI_ift, j1, if_pos hneg, nI_add]
        · have l3 : q_line (I 68) zj (nI zh) = nI zl := l3
          have hnn : ¬ nI zl < 0 := nI_pos (by omega)
          have ia : nI 340 + nI 20 * nI zl + nI 17 = nI (340 + 20 * zl + 17) := by rw [pk_mul, nI_add, nI_add]
          have ib : p_ib N 68 (nI (340 + 20 * zl + 17)) = true := ib_68 hG (by omega)
          have ic : (nI (340 + 20 * zl + 17)).toNatClampNeg = 340 + 20 * zl + 17 := nI_clamp (by omega)
          have ev : J2 68 (340 + 20 * zl + 17) = I 68 (340 + 20 * zl + 17) := by rw [j2.2.e68]
          rw [l3] at j1
          rw [l3, decide_eq_false hnn, Bool.not_false, Bool.true_and, nv_nI (zk := zl) (by omega)] at e2
          by_cases hv : I 68 (340 + 20 * zl + 17) = nI 20
          · rw [decide_eq_true hv, if_pos rfl] at e2
            right
            refine ⟨Sum.inl (if x1 = 0 then nI zh else nI zj, J2, K2), Or.inr ⟨zj, J2, K2, e2, rfl, j2⟩, fun zr0 zrec => ?_⟩
            dsimp only [Sum.elim_inl]
            unfold B_X12_breach_19
            simp only [gp_67_0 hG, Option.bind_some, n_ck i1, k1, if_neg hc, e3.sees, hst, bI_ift, j1, if_neg hnn, ia, n_ck ib, ic, ev, if_pos hv]
            split <;> rfl
          · rw [decide_eq_false hv, if_neg (by decide)] at e2
            left
            refine ⟨(nI (zj + 1), J2, K2), ⟨rfl, j2, e2⟩, fun zr0 zrec => ?_⟩
            unfold B_X12_breach_19
            simp only [gp_67_0 hG, Option.bind_some, n_ck i1, k1, if_neg hc, e3.sees, hst, bI_ift, j1, if_neg hnn, ia, n_ck ib, ic, ev, if_neg hv, nI_add]
    · rintro ⟨za, J, K⟩ ⟨e1, e3, e2⟩
      dsimp only at e1 e3 e2
      subst e1
      have hc : J 68 1 ≤ nI (nv (I 68 1)) := by rw [e3.2.e68, ← r1.1]; exact Int32.le_refl _
      have hno : zR = none := by
        rw [e2]
        refine q_b1_n _ _ (fun j a b => ?_)
        unfold q_bad
        rw [q_st_ge r1 a (by omega)]; rfl
      refine ⟨Sum.inr (nI (zh + 1), J, K), Or.inl ⟨hno, J, K, rfl, e3⟩, fun zr0 zrec => ?_⟩
      dsimp only [Sum.elim_inr]
      unfold B_X12_breach_19
      simp only [gp_67_0 hG, Option.bind_some, n_ck i1, k1, if_pos hc, nI_add]
  obtain ⟨zR, hR⟩ : ∃ zR, zR = q_bh (I 68) 24 0 := ⟨_, rfl⟩
  rw [← hR]
  have hloop := p_loopI (B := B_X12_breach_2 zn N P 67 x1) (zJ := fun zj (zc : Int32 × pI × pL) => zc.1 = nI zj ∧ mK zk N P I zc.2.1 ∧ zR = q_bh (I 68) (24 - zj) zj) (zE := fun (zt : Int32 × pI × pL) => mK zk N P I zt.2.1 ∧ ((zR = none ∧ zt.1 = -1) ∨ ∃ zh zs, zR = some (zh, zs) ∧ zt.1 = if x1 = 0 then nI zh else nI zs)) (zm := 24) (zn := zn) (by omega) ?_ ?_ (nI 0, I, L) ⟨rfl, mK.rf h, hR⟩
  · obtain ⟨⟨v, J, K⟩, l1, l2⟩ := hloop
    exact ⟨v, J, K, l1, l2⟩
  · rintro zj hj ⟨za, J, K⟩ ⟨e1, e3, e2⟩
    dsimp only at e1 e3 e2
    subst e1
    have hc : ¬ nI 24 ≤ nI zj := nI_ge hj (by decide)
    rw [show 24 - zj = (24 - (zj + 1)) + 1 by omega] at e2
    obtain ⟨zx, x1', x2⟩ := hinner zj hj J K e3
    have hB : ∀ zrec, B_X12_breach_2 zn N P 67 x1 zrec (nI zj, J, K) = Sum.elim some zrec zx := fun zrec => by
      unfold B_X12_breach_2
      simp only [if_neg hc, hin, Option.bind_some, bI_ift, x2]
    rcases x1' with ⟨g1, X2, Y2, g2, g3⟩ | ⟨zs, X2, Y2, g1, g2, g3⟩
    · left
      rw [q_bh_n g1] at e2
      refine ⟨(nI (zj + 1), X2, Y2), ⟨rfl, g3, e2⟩, fun zrec => ?_⟩
      rw [hB, g2]
      rfl
    · right
      rw [q_bh_s g1] at e2
      refine ⟨(if x1 = 0 then nI zj else nI zs, X2, Y2), ⟨g3, Or.inr ⟨zj, zs, e2, rfl⟩⟩, fun zrec => ?_⟩
      rw [hB, g2]
      rfl
  · rintro ⟨za, J, K⟩ ⟨e1, e3, e2⟩
    dsimp only at e1 e3 e2
    subst e1
    refine ⟨(-1, J, K), ⟨e3, Or.inl ⟨e2, rfl⟩⟩, fun zrec => ?_⟩
    unfold B_X12_breach_2
    simp only [if_pos (Int32.le_refl (nI 24))]
end Breach
theorem sp_breach {n zk : Nat} (hn : 200 < n) : Sp_breach n (Ivv zk) (Ivv (zk + 1)) := by
  intro N I L P h x1
  have h : IV zk N P I := h
  have hG := h.gw
  obtain ⟨J, K, k1, k2, k3⟩ := c_findBreach (L := L) h hn
  have e68 := k2.2.e68
  by_cases h0 : x1 = nI 0
  · obtain ⟨v, J2, K2, m1, m2, m3⟩ := m_breach (L := K) k2.1 hn (x1 := x1) (Or.inl h0)
    rw [e68] at m3
    refine ⟨(J 53 3, J, K), (v, J2, K2), ?_, m1, ?_, m2.1.up⟩
    · unfold f_X11_breach
      simp only [gp_0_5 hG, Option.bind_some, k1, if_pos h0]
    · have h00 : x1 = 0 := h0
      dsimp only
      rcases k3 with ⟨g1, g2, g3⟩ | ⟨zh, zs, g1, g2, g3⟩
      · rcases m3 with ⟨_, f2⟩ | ⟨_, _, f1, _⟩
        · rw [g2, f2]
        · rw [g1] at f1; cases f1
      · rcases m3 with ⟨f1, _⟩ | ⟨zh2, zs2, f1, f2⟩
        · rw [g1] at f1; cases f1
        · rw [g1] at f1
          cases f1
          rw [g2, f2, if_pos h00]
  · by_cases h1 : x1 = nI 1
    · obtain ⟨v, J2, K2, m1, m2, m3⟩ := m_breach (L := K) k2.1 hn (x1 := x1) (Or.inr h1)
      rw [e68] at m3
      refine ⟨(J 53 4, J, K), (v, J2, K2), ?_, m1, ?_, m2.1.up⟩
      · unfold f_X11_breach
        simp only [gp_0_5 hG, Option.bind_some, k1, if_neg h0, if_pos h1]
      · have h00 : ¬ x1 = 0 := h0
        dsimp only
        rcases k3 with ⟨g1, g2, g3⟩ | ⟨zh, zs, g1, g2, g3⟩
        · rcases m3 with ⟨_, f2⟩ | ⟨_, _, f1, _⟩
          · rw [g3, f2]
          · rw [g1] at f1; cases f1
        · rcases m3 with ⟨f1, _⟩ | ⟨zh2, zs2, f1, f2⟩
          · rw [g1] at f1; cases f1
          · rw [g1] at f1
            cases f1
            rw [g3, f2, if_neg h00]
    · have hin : f_X12_isIn x1 (nI 0) (nI 1) = some (bI false) := by
        rw [m_isIn]
        rcases pk_ix x1 (n := 2) (by omega) with g | g | ⟨zj, hj, e⟩
        · rw [show (nI 0 : Int32) = 0 from rfl, decide_eq_true g]; rfl
        · rw [decide_eq_true ((n_le_lt (m := 1) (by decide)).mpr g), Bool.not_true, Bool.and_false]
        · have h3 : zj = 0 ∨ zj = 1 := by omega
          rcases h3 with h3 | h3 <;> subst h3
          · exact absurd e h0
          · exact absurd e h1
      refine ⟨(-1, J, K), (-1, J, K), ?_, ?_, rfl, k2.1.up⟩
      · unfold f_X11_breach
        simp only [gp_0_5 hG, Option.bind_some, k1, if_neg h0, if_neg h1]
      · unfold f_X12_breach
        obtain ⟨m, rfl⟩ : ∃ m, n = m + 1 := ⟨n - 1, by omega⟩
        show B_X12_breach_2 (m + 1) N P 67 x1 _ (nI 0, J, K) = _
        unfold B_X12_breach_2
        simp only [show ¬ nI 24 ≤ nI 0 from by decide, if_false, hin, Option.bind_some, bI_iff]
