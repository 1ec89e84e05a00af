/-! the class reads a town -/
def q_tb1 (J0 K : pI) (t m wd base : Nat) : Prop := (∀ k, k ≠ 3 → K t k = J0 t k) ∧ (∃ r, K t 3 = nI r ∧ base ≤ r ∧ r ≤ m) ∧ ∀ j, j < base * wd → K (t + 1) j = J0 (t + 1) j
def q_tb4 (J0 K : pI) (A0 : Nat → Int32) : Prop := q_tb1 J0 K 4 12 7 (nv (A0 0)) ∧ q_tb1 J0 K 6 6 8 (nv (A0 1)) ∧ q_tb1 J0 K 8 8 4 (nv (A0 2)) ∧ q_tb1 J0 K 10 8 2 (nv (A0 3))
def q_f0 (J0 K : pI) : Prop := ∀ x, x ≠ 56 → x ≠ 59 → x ≠ 60 → (x < 4 ∨ 11 < x) → K x = J0 x
def q_ci (N : pN) (P : pR) (B : Nat → Nat) (s : Nat) (A0 : Nat → Int32) (J0 K : pI) (l : Nat) : Prop := q_f0 J0 K ∧ q_ct K B s 56 (q_stt B s A0 l).1 ∧ K 56 4 = (q_stt B s A0 l).2.1 ∧ K 56 5 = (q_stt B s A0 l).2.2.1 ∧ ((q_stt B s A0 l).2.1 = nI 0 → SR N P (q_r68 K (q_stt B s A0 l).2.2.2) 1 0) ∧ q_tb4 J0 K A0
section CTown
variable {B : Nat → Nat} {s i w : Nat} {N : pN} {P : pR} {J0 K : pI} {A A0 : Nat → Int32} {zn l : Nat}
theorem q_nf_1 (c : Nat) : (q_nf B s i w c).1 = nI 0 ∨ (q_nf B s i w c).1 = nI 2 := by
  induction c with
  | zero => exact Or.inl rfl
  | succ c ih =>
    rw [q_nf_s]
    split
    · exact Or.inr rfl
    · exact ih
theorem q_lf_1 : ¬ (q_lf B s A i).1 = nI 1 := by
  unfold q_lf
  split
  · exact (show ¬ nI 3 = nI 1 by decide)
  · split
    · exact (show ¬ nI 4 = nI 1 by decide)
    · intro h
      rcases q_nf_1 (B := B) (s := s) (i := i) (w := q_wo B s i) (q_nn (q_wo B s i)) with g | g
      · rw [g] at h; exact absurd h (by decide)
      · rw [g] at h; exact absurd h (by decide)
theorem q_stt_1 : ¬ (q_stt B s A0 l).2.1 = nI 1 := by
  induction l with
  | zero => exact (show ¬ nI 0 = nI 1 by decide)
  | succ l ih =>
    show ¬ (if (q_stt B s A0 l).2.1 = nI 0 then (q_lf B s (q_stt B s A0 l).2.2.2 (q_stt B s A0 l).1).1 else (q_stt B s A0 l).2.1) = nI 1
    split
    · exact q_lf_1
    · exact ih
theorem q_tb1.to {K2 : pI} {t m wd base : Nat} (h : q_tb1 J0 K t m wd base) (e1 : K2 t = K t) (e2 : K2 (t + 1) = K (t + 1)) : q_tb1 J0 K2 t m wd base := by
  obtain ⟨a1, a2, a3⟩ := h
  exact ⟨fun k hk => by rw [e1]; exact a1 k hk, by rw [e1]; exact a2, fun j hj => by rw [e2]; exact a3 j hj⟩
theorem q_tb4.to {K2 : pI} (h : q_tb4 J0 K A0) (e : ∀ x, 4 ≤ x → x < 12 → K2 x = K x) : q_tb4 J0 K2 A0 :=
  ⟨h.1.to (e _ (by decide) (by decide)) (e _ (by decide) (by decide)), h.2.1.to (e _ (by decide) (by decide)) (e _ (by decide) (by decide)), h.2.2.1.to (e _ (by decide) (by decide)) (e _ (by decide) (by decide)), h.2.2.2.to (e _ (by decide) (by decide)) (e _ (by decide) (by decide))⟩
theorem q_tb1.add {M x : pI} {t m wd base r : Nat} {A' : Nat → Int32} (h : q_tb1 J0 K t m wd base) (hM : M t = K t) (hM2 : M (t + 1) = K (t + 1)) (hx : q_added N P M x A' t wd r) (hr : K t 3 = nI r) (hm : r + 1 ≤ m) (hmm : m < 1000) : q_tb1 J0 x t m wd base := by
  obtain ⟨a1, ⟨r2, b1, b2, b3⟩, a3⟩ := h
  obtain ⟨x1, x2, x3, x4, x5⟩ := hx
  have hrr : r2 = r := (nI_eq (by omega) (by omega)).mp (b1.symm.trans hr)
  subst hrr
  refine ⟨fun k hk => by rw [x3 k hk, hM]; exact a1 k hk, ⟨r2 + 1, x4, by omega, hm⟩, fun j hj => ?_⟩
  have : base * wd ≤ r2 * wd := Nat.mul_le_mul_right wd b2
  rw [x5 j (by omega), hM2]; exact a3 j hj
theorem q_ci_s {t : pI} (h : q_ci N P B s A0 J0 K l) (ht : q_tcl N P K t B s (q_stt B s A0 l).2.2.2 (q_stt B s A0 l).1) (hg : q_gl B s (q_stt B s A0 l).1) : q_ci N P B s A0 J0 t (l + 1) := by
  obtain ⟨h1, h2, h3, h4, h5, h6⟩ := h
  rcases ht with ⟨c, c1, _⟩ | ⟨_, t2, t3⟩
  · exact absurd hg (q_fb_n c1)
  · have e1 : (q_stt B s A0 (l + 1)).1 = q_ad B s (q_nn (q_wo B s (q_stt B s A0 l).1) + 2) (q_stt B s A0 l).1 := rfl
    have e2 : (q_stt B s A0 (l + 1)).2.1 = if (q_stt B s A0 l).2.1 = nI 0 then (q_lf B s (q_stt B s A0 l).2.2.2 (q_stt B s A0 l).1).1 else (q_stt B s A0 l).2.1 := rfl
    have e3 : (q_stt B s A0 (l + 1)).2.2.1 = if (q_stt B s A0 l).2.1 = nI 0 then (q_lf B s (q_stt B s A0 l).2.2.2 (q_stt B s A0 l).1).2 else (q_stt B s A0 l).2.2.1 := rfl
    have e4 : (q_stt B s A0 (l + 1)).2.2.2 = if (q_stt B s A0 l).2.1 = nI 0 ∧ (q_lf B s (q_stt B s A0 l).2.2.2 (q_stt B s A0 l).1).1 = nI 0 then q_cm B s (q_stt B s A0 l).2.2.2 (q_stt B s A0 l).1 else (q_stt B s A0 l).2.2.2 := rfl
    have hfq : (q_stt B s A0 l).2.1 = nI 0 → (q_stt B s A0 l).2.2.1 = -1 := by
      clear e1 e2 e3 e4 t3 t2 h1 h2 h3 h4 h5 h6 hg
      induction l with
      | zero => intro _; rfl
      | succ l ih =>
        intro hh
        have hh : (if (q_stt B s A0 l).2.1 = nI 0 then (q_lf B s (q_stt B s A0 l).2.2.2 (q_stt B s A0 l).1).1 else (q_stt B s A0 l).2.1) = nI 0 := hh
        show (if (q_stt B s A0 l).2.1 = nI 0 then (q_lf B s (q_stt B s A0 l).2.2.2 (q_stt B s A0 l).1).2 else (q_stt B s A0 l).2.2.1) = -1
        by_cases g : (q_stt B s A0 l).2.1 = nI 0
        · rw [if_pos g] at hh ⊢
          unfold q_lf at hh ⊢
          split at hh
          · exact absurd hh (show ¬ nI 3 = nI 0 by decide)
          · rename_i g2
            rw [if_neg g2]
            split at hh
            · exact absurd hh (show ¬ nI 4 = nI 0 by decide)
            · rename_i g3
              rw [if_neg g3, (q_nf_0 hh).1]
        · rw [if_neg g] at hh
          exact absurd hh g
    rcases t3 with ⟨f0, f1, f2, f3, M, f4, f5⟩ | ⟨f0, f1, f2, f3, f4⟩ | ⟨f0, f1, f2, f3⟩
    · have g0 : (q_stt B s A0 l).2.1 = nI 0 := h3.symm.trans f0
      have hS := h5 g0
      generalize q_stt B s A0 l = S at *
      generalize hS2 : q_stt B s A0 (l + 1) = S2 at *
      have hnf := (q_nf_0 (B := B) (s := s) (i := S.1) (w := q_wo B s S.1) (c := q_nn (q_wo B s S.1)))
      have hfull : nv (S.2.2.2 (q_tix (q_wo B s S.1))) < q_tmo (q_wo B s S.1) := by
        unfold q_lf at f1
        split at f1
        · exact absurd f1 (show ¬ nI 3 = nI 0 by decide)
        · split at f1
          · exact absurd f1 (show ¬ nI 4 = nI 0 by decide)
          · omega
      have hlq : (q_lf B s S.2.2.2 S.1).2 = -1 := by
        unfold q_lf at f1 ⊢
        split at f1
        · exact absurd f1 (show ¬ nI 3 = nI 0 by decide)
        · rename_i g2
          rw [if_neg g2]
          split at f1
          · exact absurd f1 (show ¬ nI 4 = nI 0 by decide)
          · rename_i g3
            rw [if_neg g3, (hnf f1).1]
      have hw := q_gl_w hg
      have gw : q_wo B s S.1 = 1 ∨ q_wo B s S.1 = 2 ∨ q_wo B s S.1 = 3 ∨ q_wo B s S.1 = 4 := by omega
      have hx2 : ∀ x, x ≠ 56 → x ≠ 59 → x ≠ 60 → x ≠ q_ta (q_wo B s S.1) → x ≠ q_ta (q_wo B s S.1) + 1 → t x = K x := fun x x1 x2 x3 x4 x5 => by rw [f5.2.1 x x4 x5, f4 x x1 x2 x3]
      have hb4 : q_tb4 J0 t A0 := by
        rcases gw with gw | gw | gw | gw <;> rw [gw] at f5 hfull hx2
        · have hK : K 4 3 = nI (nv (S.2.2.2 0)) := by have := hS.rw.2.1.2.2.2.2.1; rw [q_r68_n (by decide)] at this; exact this
          exact ⟨h6.1.add (f4 4 (by decide) (by decide) (by decide)) (f4 5 (by decide) (by decide) (by decide)) f5 hK (show nv (S.2.2.2 0) < 12 from hfull) (by decide), h6.2.1.to (hx2 _ (by decide) (by decide) (by decide) (by decide) (by decide)) (hx2 _ (by decide) (by decide) (by decide) (by decide) (by decide)), h6.2.2.1.to (hx2 _ (by decide) (by decide) (by decide) (by decide) (by decide)) (hx2 _ (by decide) (by decide) (by decide) (by decide) (by decide)), h6.2.2.2.to (hx2 _ (by decide) (by decide) (by decide) (by decide) (by decide)) (hx2 _ (by decide) (by decide) (by decide) (by decide) (by decide))⟩
        · have hK : K 6 3 = nI (nv (S.2.2.2 1)) := by have := hS.rs.2.1.2.2.2.2.1; rw [q_r68_n (by decide)] at this; exact this
          exact ⟨h6.1.to (hx2 _ (by decide) (by decide) (by decide) (by decide) (by decide)) (hx2 _ (by decide) (by decide) (by decide) (by decide) (by decide)), h6.2.1.add (f4 6 (by decide) (by decide) (by decide)) (f4 7 (by decide) (by decide) (by decide)) f5 hK (show nv (S.2.2.2 1) < 6 from hfull) (by decide), h6.2.2.1.to (hx2 _ (by decide) (by decide) (by decide) (by decide) (by decide)) (hx2 _ (by decide) (by decide) (by decide) (by decide) (by decide)), h6.2.2.2.to (hx2 _ (by decide) (by decide) (by decide) (by decide) (by decide)) (hx2 _ (by decide) (by decide) (by decide) (by decide) (by decide))⟩
        · have hK : K 10 3 = nI (nv (S.2.2.2 3)) := by have := hS.rn.2.1.2.2.2.2.1; rw [q_r68_n (by decide)] at this; exact this
          exact ⟨h6.1.to (hx2 _ (by decide) (by decide) (by decide) (by decide) (by decide)) (hx2 _ (by decide) (by decide) (by decide) (by decide) (by decide)), h6.2.1.to (hx2 _ (by decide) (by decide) (by decide) (by decide) (by decide)) (hx2 _ (by decide) (by decide) (by decide) (by decide) (by decide)), h6.2.2.1.to (hx2 _ (by decide) (by decide) (by decide) (by decide) (by decide)) (hx2 _ (by decide) (by decide) (by decide) (by decide) (by decide)), h6.2.2.2.add (f4 10 (by decide) (by decide) (by decide)) (f4 11 (by decide) (by decide) (by decide)) f5 hK (show nv (S.2.2.2 3) < 8 from hfull) (by decide)⟩
        · have hK : K 8 3 = nI (nv (S.2.2.2 2)) := by have := hS.ri.2.1.2.2.2.2.1; rw [q_r68_n (by decide)] at this; exact this
          exact ⟨h6.1.to (hx2 _ (by decide) (by decide) (by decide) (by decide) (by decide)) (hx2 _ (by decide) (by decide) (by decide) (by decide) (by decide)), h6.2.1.to (hx2 _ (by decide) (by decide) (by decide) (by decide) (by decide)) (hx2 _ (by decide) (by decide) (by decide) (by decide) (by decide)), h6.2.2.1.add (f4 8 (by decide) (by decide) (by decide)) (f4 9 (by decide) (by decide) (by decide)) f5 hK (show nv (S.2.2.2 2) < 8 from hfull) (by decide), h6.2.2.2.to (hx2 _ (by decide) (by decide) (by decide) (by decide) (by decide)) (hx2 _ (by decide) (by decide) (by decide) (by decide) (by decide))⟩
      have hta : 4 ≤ q_ta (q_wo B s S.1) ∧ q_ta (q_wo B s S.1) ≤ 10 := by
        unfold q_ta
        split
        · omega
        · split
          · omega
          · split <;> omega
      unfold q_ci
      rw [hS2, e1, e2, e3, e4, if_pos g0, if_pos g0, if_pos ⟨g0, f1⟩]
      exact ⟨fun x x1 x2 x3 x4 => by rw [hx2 x x1 x2 x3 (by omega) (by omega)]; exact h1 x x1 x2 x3 x4, t2, by rw [f2, f1], by rw [f3, h4, hfq g0, hlq], fun _ => f5.1, hb4⟩
    · have g0 : (q_stt B s A0 l).2.1 = nI 0 := h3.symm.trans f0
      unfold q_ci
      rw [e1, e2, e3, e4, if_pos g0, if_pos g0, if_neg (fun h => f1 h.2)]
      exact ⟨fun x x1 x2 x3 x4 => by rw [f4 x x1 x2 x3]; exact h1 x x1 x2 x3 x4, t2, f2, f3, fun h => absurd h f1, h6.to (fun x x1 x2 => f4 x (by omega) (by omega) (by omega))⟩
    · have g0 : ¬ (q_stt B s A0 l).2.1 = nI 0 := fun e => f0 (h3.trans e)
      unfold q_ci
      rw [e1, e2, e3, e4, if_neg g0, if_neg g0, if_neg (fun h => g0 h.1)]
      exact ⟨fun x x1 x2 x3 x4 => by rw [f3 x x1 x2 x3]; exact h1 x x1 x2 x3 x4, t2, by rw [f1, h3], by rw [f2, h4], fun h => absurd h g0, h6.to (fun x x1 x2 => f3 x (by omega) (by omega) (by omega))⟩
end CTown
