/-! numbers for senders: the search, and the class's -/
def q_fr (cl : Nat → Nat → Bool) (row : Nat → Int32) (s : Nat) (c : Int32) : Bool := q_fold (fun o b => b && !(cl o s && decide (row o = c))) s true
def q_up1 (row : Nat → Int32) (s : Nat) (c : Int32) : Nat → Int32 := fun i => if i = s then c else row i
def q_or {α : Type} (a b : Option α) : Option α := match a with
  | some r => some r
  | none => b
def q_try (f : Nat → Option (Nat → Int32)) (fr : Nat → Bool) : Nat → Nat → Option (Nat → Int32)
  | 0, _ => none
  | e + 1, c => if fr c = true then q_or (f c) (q_try f fr e (c + 1)) else q_try f fr e (c + 1)
def q_srch (st : Nat → Bool) (cl : Nat → Nat → Bool) (lim : Nat) : Nat → Nat → (Nat → Int32) → Option (Nat → Int32)
  | 0, _, row => some row
  | d + 1, s, row => if st s = true then q_try (fun c => q_srch st cl lim d (s + 1) (q_up1 row s (nI c))) (fun c => q_fr cl row s (nI c)) lim 0 else q_srch st cl lim d (s + 1) row
theorem q_try_s {f : Nat → Option (Nat → Int32)} {fr : Nat → Bool} {e c : Nat} : q_try f fr (e + 1) c = if fr c = true then q_or (f c) (q_try f fr e (c + 1)) else q_try f fr e (c + 1) := rfl
theorem q_srch_s {st : Nat → Bool} {cl : Nat → Nat → Bool} {lim d s : Nat} {row : Nat → Int32} : q_srch st cl lim (d + 1) s row = if st s = true then q_try (fun c => q_srch st cl lim d (s + 1) (q_up1 row s (nI c))) (fun c => q_fr cl row s (nI c)) lim 0 else q_srch st cl lim d (s + 1) row := rfl
theorem q_all_ext {g h : Nat → Bool} : ∀ k, (∀ j, j < k → g j = h j) → q_fold (fun o b => b && g o) k true = q_fold (fun o b => b && h o) k true := by
  intro k
  induction k with
  | zero => intro _; rfl
  | succ k ih =>
    intro hh
    show (q_fold (fun o b => b && g o) k true && g k) = (q_fold (fun o b => b && h o) k true && h k)
    rw [ih (fun j hj => hh j (by omega)), hh k (by omega)]
theorem q_all_t {g : Nat → Bool} : ∀ k, (∀ j, j < k → g j = true) → q_fold (fun o b => b && g o) k true = true := by
  intro k
  induction k with
  | zero => intro _; rfl
  | succ k ih =>
    intro hh
    show (q_fold (fun o b => b && g o) k true && g k) = true
    rw [ih (fun j hj => hh j (by omega)), hh k (by omega)]; rfl
theorem q_fr_ext {cl : Nat → Nat → Bool} {r1 r2 : Nat → Int32} {s : Nat} {c : Int32} (h : ∀ o, o < s → cl o s = true → r1 o = r2 o) : q_fr cl r1 s c = q_fr cl r2 s c := by
  unfold q_fr
  refine q_all_ext s (fun o ho => ?_)
  cases hc : cl o s with
  | false => rfl
  | true => rw [h o ho hc]
theorem q_try_ext {f g : Nat → Option (Nat → Int32)} {fr : Nat → Bool} (h : ∀ c, f c = g c) : ∀ e c, q_try f fr e c = q_try g fr e c := by
  have h2 : f = g := funext h
  intro e c
  rw [h2]
theorem q_srch_no {st : Nat → Bool} {cl : Nat → Nat → Bool} {lim : Nat} : ∀ e s row, (∀ j, s ≤ j → j < s + e → st j = false) → q_srch st cl lim e s row = some row := by
  intro e
  induction e with
  | zero => intro s row _; rfl
  | succ e ih =>
    intro s row h
    rw [q_srch_s, h s (Nat.le_refl _) (by omega), if_neg (by decide)]
    exact ih (s + 1) row (fun j hj hj2 => h j (by omega) (by omega))
theorem q_srch_ext {st : Nat → Bool} {cl : Nat → Nat → Bool} {lim e : Nat} : ∀ d s row, (∀ j, s + d ≤ j → j < s + d + e → st j = false) → q_srch st cl lim (d + e) s row = q_srch st cl lim d s row := by
  intro d
  induction d with
  | zero =>
    intro s row h
    rw [Nat.zero_add, q_srch_no e s row (fun j hj hj2 => h j (by omega) (by omega))]
    rfl
  | succ d ih =>
    intro s row h
    rw [show d + 1 + e = (d + e) + 1 by omega, q_srch_s, q_srch_s, ih (s + 1) row (fun j hj hj2 => h j (by omega) (by omega))]
    rw [q_try_ext (fun c => ih (s + 1) (q_up1 row s (nI c)) (fun j hj hj2 => h j (by omega) (by omega)))]
theorem q_pig : ∀ s (f : Nat → Nat), ∃ c, c ≤ s ∧ ∀ i, i < s → f i ≠ c := by
  intro s
  induction s with
  | zero => intro f; exact ⟨0, Nat.le_refl _, fun i hi => absurd hi (Nat.not_lt_zero i)⟩
  | succ s ih =>
    intro f
    obtain ⟨c, h1, h2⟩ := ih (fun i => if f s < f i then f i - 1 else f i)
    refine ⟨if f s ≤ c then c + 1 else c, ?_, fun i hi => ?_⟩
    · split <;> omega
    · by_cases hs : i = s
      · rw [hs]
        split <;> omega
      · have h3 := h2 i (by omega)
        split at h3 <;> split <;> omega
theorem q_try_ok {f : Nat → Option (Nat → Int32)} {fr : Nat → Bool} (hf : ∀ c, ∃ r, f c = some r) : ∀ e c, (∃ c0, c ≤ c0 ∧ c0 < c + e ∧ fr c0 = true) → ∃ r, q_try f fr e c = some r := by
  intro e
  induction e with
  | zero => rintro c ⟨c0, h1, h2, _⟩; omega
  | succ e ih =>
    rintro c ⟨c0, h1, h2, h3⟩
    rw [q_try_s]
    cases hc : fr c with
    | true =>
      rw [if_pos rfl]
      obtain ⟨r, hr⟩ := hf c
      rw [hr]
      exact ⟨r, rfl⟩
    | false =>
      rw [if_neg (by decide)]
      refine ih (c + 1) ⟨c0, ?_, by omega, h3⟩
      by_cases hz : c0 = c
      · rw [hz, hc] at h3; cases h3
      · omega
theorem q_srch_ok {st : Nat → Bool} {cl : Nat → Nat → Bool} : ∀ d s row, s + d ≤ 6 → ∃ r, q_srch st cl 6 d s row = some r := by
  intro d
  induction d with
  | zero => intro s row _; exact ⟨row, rfl⟩
  | succ d ih =>
    intro s row h
    rw [q_srch_s]
    split
    · obtain ⟨c, c1, c2⟩ := q_pig s (fun i => nv (row i))
      refine q_try_ok (fun c => ih (s + 1) _ (by omega)) 6 0 ⟨c, Nat.zero_le _, by omega, ?_⟩
      refine q_all_t s (fun o ho => ?_)
      have hne : ¬ row o = nI c := fun e => c2 o ho (by rw [e]; exact nI_clamp (by omega))
      rw [decide_eq_false hne, Bool.and_false]; rfl
    · exact ih (s + 1) row (by omega)
theorem q_srch_0 {st : Nat → Bool} {cl : Nat → Nat → Bool} : ∀ d s row j, s ≤ j → j < s + d → st j = true → q_srch st cl 0 d s row = none := by
  intro d
  induction d with
  | zero => intro s row j h1 h2; omega
  | succ d ih =>
    intro s row j h1 h2 h3
    rw [q_srch_s]
    cases hs : st s with
    | true => rfl
    | false =>
      rw [if_neg (by decide)]
      refine ih (s + 1) row j ?_ (by omega) h3
      by_cases hz : j = s
      · rw [hz, hs] at h3; cases h3
      · omega
def q_lst (g : Nat → Bool) : Nat → Nat → Nat
  | 0, c => c
  | e + 1, c => if g c = true then c else q_lst g e (c + 1)
theorem q_lst_s {g : Nat → Bool} {e c : Nat} : q_lst g (e + 1) c = if g c = true then c else q_lst g e (c + 1) := rfl
theorem q_lst_t {g : Nat → Bool} : ∀ e c, g (c + e) = true → g (q_lst g e c) = true := by
  intro e
  induction e with
  | zero => intro c h; exact h
  | succ e ih =>
    intro c h
    rw [q_lst_s]
    split
    · assumption
    · exact ih (c + 1) (by rw [show c + 1 + e = c + (e + 1) by omega]; exact h)
theorem q_lst_le {g : Nat → Bool} : ∀ e c, q_lst g e c ≤ c + e := by
  intro e
  induction e with
  | zero => intro c; exact Nat.le_refl _
  | succ e ih =>
    intro c
    rw [q_lst_s]
    split
    · omega
    · have := ih (c + 1); omega
def q_stN (A : Nat → Int32) (s : Nat) : Bool := q_st A (nI s)
def q_sr (A : Nat → Int32) (lim : Nat) : Option (Nat → Int32) := q_srch (q_stN A) (q_clS A) lim 6 0 (fun _ => 0)
def q_num (A : Nat → Int32) : Nat := q_lst (fun lim => (q_sr A lim).isSome) 6 0
section Paint
variable {N : pN} {P : pR} {I J : pI} {L : pL} {zk : Nat}
theorem c_isFree (hG : GW N P) {A : Nat → Int32} (h3 : nv (A 3) ≤ 8) (h51 : ∀ zi, zi < 6 → J 51 zi = q_rs A zi) {s zn : Nat} (hs : s < 6) (hn : 200 < zn) {c : Int32} (hc : J 52 s = c) : f_X5_isFree zn N J (nI s) 52 51 = some (bI (q_fr (q_clS A) (J 52) s c)) := by
  have hloop := p_loopI (B := B_X5_isFree_2 N J (nI s) 52 51) (zJ := fun zj (zc : Int32) => zc = nI zj ∧ q_fold (fun o b => b && !(q_clS A o s && decide (J 52 o = c))) zj true = true) (zE := fun zt => zt = bI (q_fr (q_clS A) (J 52) s c)) (zm := s) (zn := zn) (by omega) ?_ ?_ (nI 0) ⟨rfl, rfl⟩
  · obtain ⟨zt, k1, k2⟩ := hloop
    unfold f_X5_isFree
    rw [k1, k2]
  · rintro zj hj zc ⟨rfl, e2⟩
    have hc1 : ¬ nI s ≤ nI zj := nI_ge hj (by omega)
    have hc2 : ¬ nI (N.2 52).2 ≤ nI s := by rw [gn_52 hG]; exact nI_ge hs (by decide)
    have hib1 : p_ib N 52 (nI zj) = true := n_ib (gn_52 hG) (show zj < 6 by omega) (by decide)
    have hib2 : p_ib N 52 (nI s) = true := n_ib (gn_52 hG) hs (by decide)
    have k1 : (nI zj).toNatClampNeg = zj := nI_clamp (by omega)
    have k2 : (nI s).toNatClampNeg = s := nI_clamp (by omega)
    have hq : q_fold (fun o b => b && !(q_clS A o s && decide (J 52 o = c))) (zj + 1) true = !(q_clS A zj s && decide (J 52 zj = c)) := by
      show (q_fold (fun o b => b && !(q_clS A o s && decide (J 52 o = c))) zj true && _) = _
      rw [e2, Bool.true_and]
    by_cases he : J 52 zj = c
    · have hac := c_areClashing hG (A := A) (I := J) h3 h51 (za := zj) (zb := s) (by omega) hs
      cases hcl : q_clS A zj s with
      | false =>
        rw [hcl] at hac hq
        left
        refine ⟨nI (zj + 1), ⟨rfl, hq⟩, fun zrec => ?_⟩
        unfold B_X5_isFree_2
        simp only [if_neg hc1, if_neg hc2, n_ck hib1, n_ck hib2, k1, k2, hc, if_pos he, hac, Option.bind_some, bI_iff, nI_add]
      | true =>
        rw [hcl] at hac
        rw [hcl, decide_eq_true he] at hq
        right
        refine ⟨nI 0, ?_, fun zrec => ?_⟩
        · unfold q_fr
          have hf : (!(q_clS A zj s && decide (J 52 zj = c))) = false := by rw [hcl, decide_eq_true he]; rfl
          rw [q_all_to (g := fun o => !(q_clS A o s && decide (J 52 o = c))) hf hj]; rfl
        · unfold B_X5_isFree_2
          simp only [if_neg hc1, if_neg hc2, n_ck hib1, n_ck hib2, k1, k2, hc, if_pos he, hac, Option.bind_some, bI_ift]
    · left
      rw [decide_eq_false he, Bool.and_false] at hq
      refine ⟨nI (zj + 1), ⟨rfl, hq⟩, fun zrec => ?_⟩
      unfold B_X5_isFree_2
      simp only [if_neg hc1, if_neg hc2, n_ck hib1, n_ck hib2, k1, k2, hc, if_neg he, nI_add]
  · rintro zc ⟨rfl, e2⟩
    refine ⟨nI 1, ?_, fun zrec => ?_⟩
    · unfold q_fr
      rw [e2]; rfl
    · unfold B_X5_isFree_2
      simp only [if_pos (Int32.le_refl (nI s))]
theorem q_clS_st {A : Nat → Int32} {a b : Nat} (h : q_clS A a b = true) : q_stN A a = true := by
  unfold q_clS at h
  rw [Bool.and_eq_true] at h
  exact h.1
theorem c_paintFrom (hG : GW N P) {A : Nat → Int32} (h3 : nv (A 3) ≤ 8) {lim zn : Nat} (hl : lim ≤ 6) (hn : 200 < zn) : ∀ d s, s + d = 6 → ∀ k, d < k → ∀ (J : pI) (row : Nat → Int32), (∀ zi, zi < 6 → J 51 zi = q_rs A zi) → (∀ o, o < s → q_stN A o = true → J 52 o = row o) →
    (∃ r J2, q_srch (q_stN A) (q_clS A) lim d s row = some r ∧ r_X5_paintFrom zn N k J (nI s) (nI lim) 52 51 = some (nI 1, J2) ∧ (∀ zq, zq ≠ 52 → J2 zq = J zq) ∧ ∀ o, o < 6 → q_stN A o = true → J2 52 o = r o) ∨ (∃ J2, q_srch (q_stN A) (q_clS A) lim d s row = none ∧ r_X5_paintFrom zn N k J (nI s) (nI lim) 52 51 = some (nI 0, J2) ∧ (∀ zq, zq ≠ 52 → J2 zq = J zq) ∧ ∀ o, o < s → J2 52 o = J 52 o) := by
  intro d
  induction d with
  | zero =>
    intro s hs k hk J row h51 hrow
    obtain ⟨k, rfl⟩ : ∃ k2, k = k2 + 1 := ⟨k - 1, by omega⟩
    have hs6 : s = 6 := by omega
    subst hs6
    have hc : nI (N.2 52).2 ≤ nI 6 := by rw [gn_52 hG]; decide
    refine Or.inl ⟨row, J, rfl, ?_, fun _ _ => rfl, hrow⟩
    show b_X5_paintFrom zn N (r_X5_paintFrom zn N k) J (nI 6) (nI lim) 52 51 = _
    unfold b_X5_paintFrom
    rw [if_neg (by decide), if_pos hc]
  | succ d ih =>
    intro s hs k hk J row h51 hrow
    obtain ⟨k, rfl⟩ : ∃ k2, k = k2 + 1 := ⟨k - 1, by omega⟩
    have hc0 : ¬ nI s < 0 := nI_pos (by omega)
    have hc1 : ¬ nI (N.2 52).2 ≤ nI s := by rw [gn_52 hG]; exact nI_ge (by omega) (by decide)
    have hc2 : nI s < nI (N.2 51).2 := by rw [gn_51 hG]; exact nI_lt (by omega) (by decide)
    have ib51 : p_ib N 51 (nI s) = true := n_ib (gn_51 hG) (show s < 6 by omega) (by decide)
    have ib52 : p_ib N 52 (nI s) = true := n_ib (gn_52 hG) (show s < 6 by omega) (by decide)
    have kcl : (nI s).toNatClampNeg = s := nI_clamp (by omega)
    have hshow : r_X5_paintFrom zn N (k + 1) J (nI s) (nI lim) 52 51 = b_X5_paintFrom zn N (r_X5_paintFrom zn N k) J (nI s) (nI lim) 52 51 := rfl
    rw [hshow, q_srch_s]
    have e51 := h51 s (by omega)
    cases hst : q_stN A s with
    | false =>
      have hst2 : q_st A (nI s) = false := hst
      have e51b : J 51 s = -1 := by rw [e51]; unfold q_rs; rw [hst2]; rfl
      rw [if_neg (by decide)]
      rcases ih (s + 1) (by omega) k (by omega) (p_u J 52 s (-1)) row (fun zi hi => by rw [p_u_ne (by decide)]; exact h51 zi hi) (fun o ho hso => by
        by_cases hz : o = s
        · rw [hz, hst] at hso; cases hso
        · rw [p_u_nk hz]; exact hrow o (by omega) hso) with ⟨r, J2, a1, a2, a3, a4⟩ | ⟨J2, a1, a2, a3, a4⟩
      · refine Or.inl ⟨r, J2, a1, ?_, fun zq hq => by rw [a3 zq hq, p_u_ne hq], a4⟩
        unfold b_X5_paintFrom
        simp only [if_neg hc0, if_neg hc1, if_pos hc2, n_ck ib51, kcl, if_pos e51b, n_ck ib52, n_let, nI_add, a2, Option.bind_some, n_10, n_11, or_true, decide_true, n_ckt]
      · refine Or.inr ⟨J2, a1, ?_, fun zq hq => by rw [a3 zq hq, p_u_ne hq], fun o ho => by rw [a4 o (by omega), p_u_nk (by omega)]⟩
        unfold b_X5_paintFrom
        simp only [if_neg hc0, if_neg hc1, if_pos hc2, n_ck ib51, kcl, if_pos e51b, n_ck ib52, n_let, nI_add, a2, Option.bind_some, n_00, true_or, decide_true, n_ckt]
    | true =>
      have hst2 : q_st A (nI s) = true := hst
      have e51b : ¬ J 51 s = -1 := by rw [e51]; unfold q_rs; rw [hst2, if_pos rfl]; exact q_mk_neg h3
      rw [if_pos rfl]
      have hb : b_X5_paintFrom zn N (r_X5_paintFrom zn N k) J (nI s) (nI lim) 52 51 = p_it (B_X5_paintFrom_42 zn N (r_X5_paintFrom zn N k) (nI s) (nI lim) 52 51) zn (nI 0, J) := by
        unfold b_X5_paintFrom
        simp only [if_neg hc0, if_neg hc1, if_pos hc2, n_ck ib51, kcl, if_neg e51b]
      rw [hb]
      obtain ⟨zR, hR⟩ : ∃ zR, zR = q_try (fun c => q_srch (q_stN A) (q_clS A) lim d (s + 1) (q_up1 row s (nI c))) (fun c => q_fr (q_clS A) row s (nI c)) lim 0 := ⟨_, rfl⟩
      rw [← hR]
      have hloop := p_loopI (B := B_X5_paintFrom_42 zn N (r_X5_paintFrom zn N k) (nI s) (nI lim) 52 51) (zJ := fun zj (zc : Int32 × pI) => zc.1 = nI zj ∧ (∀ zq, zq ≠ 52 → zc.2 zq = J zq) ∧ (∀ o, o < s → zc.2 52 o = J 52 o) ∧ zR = q_try (fun c => q_srch (q_stN A) (q_clS A) lim d (s + 1) (q_up1 row s (nI c))) (fun c => q_fr (q_clS A) row s (nI c)) (lim - zj) zj) (zE := fun (zt : Int32 × pI) => (∃ r, zR = some r ∧ zt.1 = nI 1 ∧ (∀ zq, zq ≠ 52 → zt.2 zq = J zq) ∧ ∀ o, o < 6 → q_stN A o = true → zt.2 52 o = r o) ∨ (zR = none ∧ zt.1 = nI 0 ∧ (∀ zq, zq ≠ 52 → zt.2 zq = J zq) ∧ ∀ o, o < s → zt.2 52 o = J 52 o)) (zm := lim) (zn := zn) (by omega) ?_ ?_ (nI 0, J) ⟨rfl, fun _ _ => rfl, fun _ _ => rfl, hR⟩
      · obtain ⟨⟨z1, J2⟩, l1, l2⟩ := hloop
        rcases l2 with ⟨r, t1, t2, t3, t4⟩ | ⟨t1, t2, t3, t4⟩
        · dsimp only at t2 t3 t4
          subst t2
          exact Or.inl ⟨r, J2, t1, l1, t3, t4⟩
        · dsimp only at t2 t3 t4
          subst t2
          exact Or.inr ⟨J2, t1, l1, t3, t4⟩
      · rintro zj hj ⟨z1, X⟩ ⟨e1, e2, e3, e4⟩
        dsimp only at e1 e2 e3 e4
        subst e1
        have hcl : ¬ nI lim ≤ nI zj := nI_ge hj (by omega)
        rw [show lim - zj = (lim - (zj + 1)) + 1 by omega, q_try_s] at e4
        have hX51 : ∀ zi, zi < 6 → p_u X 52 s (nI zj) 51 zi = q_rs A zi := fun zi hi => by rw [p_u_ne (by decide), e2 51 (by decide)]; exact h51 zi hi
        have hfree := c_isFree hG (A := A) (J := p_u X 52 s (nI zj)) h3 hX51 (s := s) (zn := zn) (by omega) hn p_u_self
        have hfr : q_fr (q_clS A) (p_u X 52 s (nI zj) 52) s (nI zj) = q_fr (q_clS A) row s (nI zj) := q_fr_ext (fun o ho hco => by rw [p_u_nk (by omega), e3 o ho]; exact hrow o ho (q_clS_st hco))
        rw [hfr] at hfree
        cases hf : q_fr (q_clS A) row s (nI zj) with
        | false =>
          rw [hf] at hfree
          rw [hf, if_neg (by decide)] at e4
          left
          refine ⟨(nI (zj + 1), p_u X 52 s (nI zj)), ⟨rfl, fun zq hq => by dsimp only; rw [p_u_ne hq, e2 zq hq], fun o ho => by dsimp only; rw [p_u_nk (by omega), e3 o ho], e4⟩, fun zrec => ?_⟩
          unfold B_X5_paintFrom_42
          simp only [if_neg hcl, n_ck ib52, kcl, n_let, hfree, Option.bind_some, bI_iff, nI_add]
        | true =>
          rw [hf] at hfree
          rw [hf, if_pos rfl] at e4
          rcases ih (s + 1) (by omega) k (by omega) (p_u X 52 s (nI zj)) (q_up1 row s (nI zj)) hX51 (fun o ho hso => by
            unfold q_up1
            by_cases hz : o = s
            · rw [hz, p_u_self, if_pos rfl]
            · rw [p_u_nk hz, if_neg hz, e3 o (by omega)]; exact hrow o (by omega) hso) with ⟨r, J2, a1, a2, a3, a4⟩ | ⟨J2, a1, a2, a3, a4⟩
          · right
            rw [a1] at e4
            refine ⟨(nI 1, J2), Or.inl ⟨r, e4, rfl, fun zq hq => by dsimp only; rw [a3 zq hq, p_u_ne hq, e2 zq hq], a4⟩, fun zrec => ?_⟩
            unfold B_X5_paintFrom_42
            simp only [if_neg hcl, n_ck ib52, kcl, n_let, hfree, Option.bind_some, bI_ift, nI_add, a2, n_10, if_false]
          · left
            rw [a1] at e4
            refine ⟨(nI (zj + 1), J2), ⟨rfl, fun zq hq => by dsimp only; rw [a3 zq hq, p_u_ne hq, e2 zq hq], fun o ho => by dsimp only; rw [a4 o (by omega), p_u_nk (by omega), e3 o ho], e4⟩, fun zrec => ?_⟩
            unfold B_X5_paintFrom_42
            simp only [if_neg hcl, n_ck ib52, kcl, n_let, hfree, Option.bind_some, bI_ift, nI_add, a2, n_00, if_true]
      · rintro ⟨z1, X⟩ ⟨e1, e2, e3, e4⟩
        dsimp only at e1 e2 e3 e4
        subst e1
        rw [Nat.sub_self] at e4
        refine ⟨(nI 0, X), Or.inr ⟨e4, rfl, e2, e3⟩, fun zrec => ?_⟩
        unfold B_X5_paintFrom_42
        simp only [if_pos (Int32.le_refl (nI lim))]
theorem q_sr6 {A : Nat → Int32} : (q_sr A 6).isSome = true := by
  obtain ⟨r, hr⟩ := q_srch_ok (st := q_stN A) (cl := q_clS A) 6 0 (fun _ => 0) (Nat.le_refl _)
  unfold q_sr
  rw [hr]; rfl
theorem q_num_ok {A : Nat → Int32} : ∃ r, q_sr A (q_num A) = some r := by
  have h := q_lst_t (g := fun lim => (q_sr A lim).isSome) 6 0 q_sr6
  exact Option.isSome_iff_exists.mp h
theorem c_paintSenders (h : IV zk N P I) {zn : Nat} (hn : 200 < zn) : ∃ J K, f_X5_paintSenders zn N I L P 49 = some (J, K) ∧ cK zk N P I J ∧ J 49 8 = nI (q_num (I 68)) ∧ ∃ r, q_sr (I 68) (q_num (I 68)) = some r ∧ ∀ o, o < 6 → q_stN (I 68) o = true → J 52 o = r o := by
  have hG := h.gw
  have h3 := h.n3.2
  obtain ⟨J0, K0, a1, a2, a3⟩ := c_findReaches (L := L) (cK.rf h) hn
  have hJ3 : cK zk N P I (p_u J0 49 8 (nI 0)) := ⟨a2.1.scratch (fun zq hq => p_u_ne (by omega)), a2.2.tr (fun zq a b c d e => p_u_ne (by omega))⟩
  obtain ⟨zR, hR⟩ : ∃ zR, zR = q_num (I 68) := ⟨_, rfl⟩
  obtain ⟨rr, hrr⟩ := q_num_ok (A := I 68)
  rw [← hR] at hrr ⊢
  have hloop := p_loopI (B := B_X5_paintSenders_9 zn N P 49) (zJ := fun zj (X : pI) => cK zk N P I X ∧ X 49 8 = nI zj ∧ (∀ zi, zi < 6 → X 51 zi = q_rs (I 68) zi) ∧ zR = q_lst (fun lim => (q_sr (I 68) lim).isSome) (6 - zj) zj) (zE := fun (J : pI) => cK zk N P I J ∧ J 49 8 = nI zR ∧ ∀ o, o < 6 → q_stN (I 68) o = true → J 52 o = rr o) (zm := 6) (zn := zn) (by omega) ?_ ?_ (p_u J0 49 8 (nI 0)) ⟨hJ3, p_u_self, fun zi hi => by rw [p_u_ne (by decide)]; exact a3 zi hi, hR⟩
  · obtain ⟨J, l1, l2, l3, l4⟩ := hloop
    refine ⟨J, K0, ?_, l2, l3, rr, hrr, l4⟩
    unfold f_X5_paintSenders
    simp only [a1, Option.bind_some, n_let, l1]
  · rintro zj hj X ⟨e1, e2, e3, e4⟩
    rw [show 6 - zj = (6 - (zj + 1)) + 1 by omega, q_lst_s] at e4
    have hpf : f_X5_paintFrom zn N X (nI 0) (nI zj) 52 51 = r_X5_paintFrom zn N 8 X (nI 0) (nI zj) 52 51 := rfl
    rcases c_paintFrom hG (A := I 68) h3 (lim := zj) (zn := zn) (by omega) hn 6 0 rfl 8 (by decide) X (fun _ => 0) e3 (fun o ho => absurd ho (Nat.not_lt_zero o)) with ⟨r, J2, b1, b2, b3, b4⟩ | ⟨J2, b1, b2, b3, b4⟩
    · have hs : q_sr (I 68) zj = some r := b1
      rw [hs, Option.isSome_some, if_pos rfl] at e4
      rw [e4, hs] at hrr
      have err : r = rr := Option.some.inj hrr
      right
      refine ⟨J2, ⟨⟨e1.1.scratch (fun zq hq => b3 zq (by omega)), e1.2.tr (fun zq a b c d e => b3 zq (by omega))⟩, by rw [b3 49 (by decide), e2, e4], fun o ho hso => by rw [← err]; exact b4 o ho hso⟩, fun zrec => ?_⟩
      unfold B_X5_paintSenders_9
      simp only [gp_49_3 hG, gp_49_4 hG, Option.bind_some, e2, hpf, b2, n_10, if_false]
    · have hs : q_sr (I 68) zj = none := b1
      rw [hs, Option.isSome_none, if_neg (by decide)] at e4
      left
      have hc : ¬ nI 6 ≤ nI zj := nI_ge hj (by decide)
      have e28 : J2 49 8 = nI zj := by rw [b3 49 (by decide), e2]
      refine ⟨p_u J2 49 8 (nI (zj + 1)), ⟨⟨e1.1.scratch (fun zq hq => by rw [p_u_ne (by omega), b3 zq (by omega)]), e1.2.tr (fun zq a b c d e => by rw [p_u_ne (by omega), b3 zq (by omega)])⟩, p_u_self, fun zi hi => by rw [p_u_ne (by decide), b3 51 (by decide)]; exact e3 zi hi, e4⟩, fun zrec => ?_⟩
      unfold B_X5_paintSenders_9
      simp only [gp_49_3 hG, gp_49_4 hG, Option.bind_some, e2, hpf, b2, n_00, if_true, e28, if_neg hc, n_let, nI_add]
  · rintro X ⟨e1, e2, e3, e4⟩
    have e4 : zR = 6 := e4
    have hpf : f_X5_paintFrom zn N X (nI 0) (nI 6) 52 51 = r_X5_paintFrom zn N 8 X (nI 0) (nI 6) 52 51 := rfl
    rcases c_paintFrom hG (A := I 68) h3 (lim := 6) (zn := zn) (by omega) hn 6 0 rfl 8 (by decide) X (fun _ => 0) e3 (fun o ho => absurd ho (Nat.not_lt_zero o)) with ⟨r, J2, b1, b2, b3, b4⟩ | ⟨J2, b1, b2, b3, b4⟩
    · have hs : q_sr (I 68) 6 = some r := b1
      rw [e4, hs] at hrr
      have err : r = rr := Option.some.inj hrr
      refine ⟨J2, ⟨⟨e1.1.scratch (fun zq hq => b3 zq (by omega)), e1.2.tr (fun zq a b c d e => b3 zq (by omega))⟩, by rw [b3 49 (by decide), e2, e4], fun o ho hso => by rw [← err]; exact b4 o ho hso⟩, fun zrec => ?_⟩
      unfold B_X5_paintSenders_9
      simp only [gp_49_3 hG, gp_49_4 hG, Option.bind_some, e2, hpf, b2, n_10, if_false]
    · have hs : q_sr (I 68) 6 = none := b1
      have h9 := q_sr6 (A := I 68)
      rw [hs] at h9
      cases h9
end Paint
