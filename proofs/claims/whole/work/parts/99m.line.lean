/-! a town's line, as both read it -/
section SetP
variable {N : pN} {P P' : pR} {I : pI} {a zk : Nat}
theorem TB.setP {t c m w r : Nat} (h : TB N P I t c m w r) (e : P' t 2 = P t 2) : TB N P' I t c m w r := by
  obtain ⟨h1, h2, h3⟩ := h
  exact ⟨h1, by rw [e, h2], h3⟩
theorem SR.setP {b o : Nat} (h : SR N P I b o) (e : ∀ x j, x ≠ a → P' x j = P x j) (ha : ∀ x, b ≤ x → x < b + 19 → x ≠ a) : SR N P' I b o := by
  obtain ⟨s1, s2, s3, s4, s5, s6, s7, s8, s9, s10⟩ := h
  exact ⟨⟨s1.1, s1.2.1.setP (e _ _ (ha _ (by omega) (by omega))), s1.2.2⟩, ⟨s2.1, s2.2.1.setP (e _ _ (ha _ (by omega) (by omega))), s2.2.2⟩, ⟨s3.1, s3.2.1.setP (e _ _ (ha _ (by omega) (by omega))), s3.2.2⟩, ⟨s4.1, s4.2.1.setP (e _ _ (ha _ (by omega) (by omega))), s4.2.2⟩, ⟨s5.1, s5.2.1.setP (e _ _ (ha _ (by omega) (by omega))), s5.2.2⟩, ⟨s6.1.setP (e _ _ (ha _ (by omega) (by omega))), s6.2⟩, ⟨s7.1.setP (e _ _ (ha _ (by omega) (by omega))), s7.2⟩, ⟨s8.1, s8.2.1.setP (e _ _ (ha _ (by omega) (by omega))), s8.2.2⟩, ⟨s9.1, s9.2.1.setP (e _ _ (ha _ (by omega) (by omega))), s9.2.2⟩, s10⟩
theorem IV.setP (h : IV zk N P I) (hG : GW N P') (e : ∀ x j, x ≠ a → P' x j = P x j) (ha : a = 56 ∨ a = 62) : IV zk N P' I := by
  obtain ⟨h1, h2, h3, h4, h5, h6, h7, h8⟩ := h
  refine ⟨hG, h2.setP e (fun x _ _ => by omega), ⟨fun zl hl => ?_, fun zk zl zb x1 x2 => ?_, ?_⟩, ?_, h5, h6, ?_, h8⟩
  · rw [e 20 zl (by omega)]
    rcases h3.1 zl hl with g | ⟨zj, g1, g2, g3, g4⟩
    · exact Or.inl g
    · refine Or.inr ⟨zj, g1, g2, ⟨g3.1, g3.2.1, fun j hj => ?_⟩, g4.setP e (fun x _ _ => by omega)⟩
      rw [e _ _ (by omega), e _ _ (by omega)]
      exact g3.2.2 j hj
  · rw [e 20 zk (by omega), e 20 zl (by omega)]
    exact h3.2.1 zk zl zb x1 x2
  · unfold q_im
    rw [e 20 0 (by omega), e 20 1 (by omega), e 20 2 (by omega)]
    exact h3.2.2
  · obtain ⟨b1, b2, b3, ⟨zr, b4⟩, b5⟩ := h4
    exact ⟨b1, b2, b3, ⟨zr, b4.setP (e _ _ (by omega))⟩, b5⟩
  · rcases h7 with g | ⟨zs, zx, zy, g1, g2, g3, g4, g5, g6⟩
    · exact Or.inl g
    · exact Or.inr ⟨zs, zx, zy, g1, g2, g3, g4, g5.setP (e _ _ (by omega)), g6⟩
theorem GW.open56 (h : GW N P) (hW : WT N (p_u P 56 0 (some 2))) : GW N (p_u P 56 0 (some 2)) := by
  obtain ⟨h1, h2, h3, h4, h5, h6, h7⟩ := h
  have hn : ∀ q ∈ gw_P, q.1 ≠ 56 ∨ q.2.1 ≠ 0 := by decide
  refine ⟨hW, h2, h3, fun q hq => ?_, by rw [p_u_ne (by decide)]; exact h5, Or.inr p_u_self, by rw [p_u_ne (by decide)]; exact h7⟩
  rcases hn q hq with g | g
  · rw [p_u_ne g]; exact h4 q hq
  · by_cases e : q.1 = 56
    · rw [e, p_u_nk g, ← e]; exact h4 q hq
    · rw [p_u_ne e]; exact h4 q hq
theorem GW.open62 (h : GW N P) (hW : WT N (p_u P 62 0 (some 2))) : GW N (p_u P 62 0 (some 2)) := by
  obtain ⟨h1, h2, h3, h4, h5, h6, h7⟩ := h
  have hn : ∀ q ∈ gw_P, q.1 ≠ 62 ∨ q.2.1 ≠ 0 := by decide
  refine ⟨hW, h2, h3, fun q hq => ?_, by rw [p_u_ne (by decide)]; exact h5, by rw [p_u_ne (by decide)]; exact h6, Or.inr p_u_self⟩
  rcases hn q hq with g | g
  · rw [p_u_ne g]; exact h4 q hq
  · by_cases e : q.1 = 62
    · rw [e, p_u_nk g, ← e]; exact h4 q hq
    · rw [p_u_ne e]; exact h4 q hq
end SetP
def q_ad (B : Nat → Nat) (s : Nat) : Nat → Nat → Nat
  | 0, i => i
  | c + 1, i => q_te B s (q_ad B s c i)
def q_nn (w : Nat) : Nat := if w = 1 then 5 else if w = 3 then 2 else 4
def q_gd (B : Nat → Nat) (s i c : Nat) : Bool := if c = 0 then decide (1 ≤ q_wo B s i ∧ q_wo B s i ≤ 4) else if c ≤ q_nn (q_wo B s i) then q_isn B s (q_ad B s c i) else decide (q_sn B s (q_ad B s c i) = 59)
def q_gl (B : Nat → Nat) (s i : Nat) : Prop := ∀ c, c ≤ q_nn (q_wo B s i) + 1 → q_gd B s i c = true
def q_fb (B : Nat → Nat) (s i c : Nat) : Prop := c ≤ q_nn (q_wo B s i) + 1 ∧ (∀ d, d < c → q_gd B s i d = true) ∧ q_gd B s i c = false
def q_v (B : Nat → Nat) (s i c : Nat) : Nat := q_vl B s (q_ad B s (c + 1) i)
def q_pc (B : Nat → Nat) (s i c : Nat) : Nat := q_tp B s (q_ad B s (c + 1) i)
def q_tlo : List Nat := [0, 0, 0, 0, 0, 0, 0, 0, 1, 0, 0, 0, 0, 0, 0, 0, 0, 1, 1, 0]
def q_thg : List Nat := [20, 20, 20, 20, 4, 20, 20, 5, 9999, 0, 20, 20, 0, 0, 0, 20, 20, 9999, 999, 0]
def q_tmb (w c v : Nat) : Bool := decide (q_tlo.getD ((w - 1) * 5 + c) 0 ≤ v) && decide (v ≤ q_thg.getD ((w - 1) * 5 + c) 0)
def q_nf (B : Nat → Nat) (s i w : Nat) : Nat → Int32 × Int32
  | 0 => (nI 0, -1)
  | c + 1 => if (q_nf B s i w c).1 = nI 0 ∧ q_tmb w c (q_v B s i c) = false then (nI 2, nI (q_pc B s i c)) else q_nf B s i w c
theorem q_nf_s (B : Nat → Nat) (s i w c : Nat) : q_nf B s i w (c + 1) = if (q_nf B s i w c).1 = nI 0 ∧ q_tmb w c (q_v B s i c) = false then (nI 2, nI (q_pc B s i c)) else q_nf B s i w c := rfl
def q_crk (B : Nat → Nat) (s i : Nat) : Bool := decide (q_v B s i 0 = q_v B s i 2) == decide (q_v B s i 1 = q_v B s i 3)
def q_tix (w : Nat) : Nat := if w = 1 then 0 else if w = 2 then 1 else if w = 3 then 3 else 2
def q_tmo (w : Nat) : Nat := if w = 1 then 12 else if w = 2 then 6 else 8
def q_tbas (w : Nat) : Nat := if w = 1 then 30 else if w = 2 then 120 else if w = 3 then 202 else 170
def q_twi (w : Nat) : Nat := if w = 1 then 7 else if w = 2 then 8 else if w = 3 then 2 else 4
def q_lf (B : Nat → Nat) (s : Nat) (A : Nat → Int32) (i : Nat) : Int32 × Int32 := if q_wo B s i = 1 ∧ q_crk B s i = true then (nI 3, nI (q_tp B s i)) else if q_tmo (q_wo B s i) ≤ nv (A (q_tix (q_wo B s i))) then (nI 4, nI (q_tp B s i)) else q_nf B s i (q_wo B s i) (q_nn (q_wo B s i))
def q_trw (B : Nat → Nat) (s : Nat) (A : Nat → Int32) (i k : Nat) : Int32 :=
  if q_wo B s i = 1 then (if k < 2 then nI (min (q_v B s i k) (q_v B s i (k + 2))) else if k < 4 then nI (max (q_v B s i (k - 2)) (q_v B s i k)) else if k = 4 then nI (q_v B s i 4) else if k = 5 then A 4 else -1)
  else if q_wo B s i = 2 then (if k < 4 then nI (q_v B s i k) else if k = 4 then A 4 else -1)
  else nI (q_v B s i k)
def q_cm (B : Nat → Nat) (s : Nat) (A : Nat → Int32) (i : Nat) : Nat → Int32 := fun j => if q_tbas (q_wo B s i) + q_twi (q_wo B s i) * nv (A (q_tix (q_wo B s i))) ≤ j ∧ j < q_tbas (q_wo B s i) + q_twi (q_wo B s i) * nv (A (q_tix (q_wo B s i))) + q_twi (q_wo B s i) then q_trw B s A i (j - (q_tbas (q_wo B s i) + q_twi (q_wo B s i) * nv (A (q_tix (q_wo B s i))))) else if j = q_tix (q_wo B s i) then nI (nv (A (q_tix (q_wo B s i))) + 1) else A j
def q_stp (B : Nat → Nat) (s : Nat) (S : Nat × Int32 × Int32 × (Nat → Int32)) : Nat × Int32 × Int32 × (Nat → Int32) := (q_ad B s (q_nn (q_wo B s S.1) + 2) S.1, if S.2.1 = nI 0 then (q_lf B s S.2.2.2 S.1).1 else S.2.1, if S.2.1 = nI 0 then (q_lf B s S.2.2.2 S.1).2 else S.2.2.1, if S.2.1 = nI 0 ∧ (q_lf B s S.2.2.2 S.1).1 = nI 0 then q_cm B s S.2.2.2 S.1 else S.2.2.2)
def q_stt (B : Nat → Nat) (s : Nat) (A0 : Nat → Int32) : Nat → Nat × Int32 × Int32 × (Nat → Int32)
  | 0 => (0, nI 0, -1, A0)
  | l + 1 => q_stp B s (q_stt B s A0 l)
def q_out (B : Nat → Nat) (s : Nat) (A0 : Nat → Int32) (l : Nat) (F Q : Int32) : Prop := (∀ k, k < l → q_gl B s (q_stt B s A0 k).1) ∧ ((q_tk B s (q_stt B s A0 l).1 = 0 ∧ F = (q_stt B s A0 l).2.1 ∧ Q = (q_stt B s A0 l).2.2.1) ∨ (q_tk B s (q_stt B s A0 l).1 ≠ 0 ∧ ∃ c, q_fb B s (q_stt B s A0 l).1 c ∧ F = nI 1 ∧ Q = nI (q_tp B s (q_ad B s c (q_stt B s A0 l).1))))
theorem q_len4 : ∀ j, j < 4 → 4 ≤ p_len.getD j 0 := by decide +kernel
section Line
variable {B : Nat → Nat} {s i c d : Nat} {A0 : Nat → Int32}
theorem q_ad_b (hi : i ≤ s) : ∀ c, i ≤ q_ad B s c i ∧ q_ad B s c i ≤ s := by
  intro c
  induction c with
  | zero => exact ⟨Nat.le_refl _, hi⟩
  | succ c ih =>
    have h1 := q_tp_b (B := B) ih.2
    have h2 := q_te_b (B := B) ih.2
    show i ≤ q_te B s (q_ad B s c i) ∧ q_te B s (q_ad B s c i) ≤ s
    omega
theorem q_ad_m (hi : i ≤ s) : ∀ e, q_ad B s c i ≤ q_ad B s (c + e) i := by
  intro e
  induction e with
  | zero => exact Nat.le_refl _
  | succ e ih =>
    have h0 := q_ad_b (B := B) hi (c + e)
    have h1 := q_tp_b (B := B) h0.2
    have h2 := q_te_b (B := B) h0.2
    show q_ad B s c i ≤ q_te B s (q_ad B s (c + e) i)
    omega
theorem q_ad_le (hi : i ≤ s) (h : c ≤ d) : q_ad B s c i ≤ q_ad B s d i := by
  have := q_ad_m (B := B) (c := c) hi (d - c)
  rw [show c + (d - c) = d by omega] at this
  exact this
theorem q_fb_u (h1 : q_fb B s i c) (h2 : q_fb B s i d) : c = d := by
  rcases Nat.lt_trichotomy c d with h | h | h
  · have := h2.2.1 c h; rw [h1.2.2] at this; cases this
  · exact h
  · have := h1.2.1 d h; rw [h2.2.2] at this; cases this
theorem q_fb_n (h1 : q_fb B s i c) : ¬ q_gl B s i := fun h => by
  have := h c h1.1; rw [h1.2.2] at this; cases this
theorem q_nn_b (w : Nat) : 2 ≤ q_nn w ∧ q_nn w ≤ 5 := by
  unfold q_nn
  split
  · omega
  · split <;> omega
theorem q_gd_0 : q_gd B s i 0 = true ↔ 1 ≤ q_wo B s i ∧ q_wo B s i ≤ 4 := by
  unfold q_gd
  rw [if_pos rfl, decide_eq_true_iff]
theorem q_gd_n (h : c < q_nn (q_wo B s i)) : q_gd B s i (c + 1) = q_isn B s (q_ad B s (c + 1) i) := by
  unfold q_gd
  rw [if_neg (by omega), if_pos (by omega)]
theorem q_gd_e : q_gd B s i (q_nn (q_wo B s i) + 1) = decide (q_sn B s (q_ad B s (q_nn (q_wo B s i) + 1) i) = 59) := by
  unfold q_gd
  rw [if_neg (by omega), if_neg (by omega)]
theorem q_wo_1 (h : q_wo B s i ≠ 0) : q_tk B s i = 1 := by
  unfold q_wo at h
  by_cases e : q_tk B s i = 1
  · exact e
  · rw [if_neg e] at h; exact absurd rfl h
theorem q_gl_w (h : q_gl B s i) : 1 ≤ q_wo B s i ∧ q_wo B s i ≤ 4 := q_gd_0.mp (h 0 (by omega))
theorem q_gl_k (h : q_gl B s i) : q_tk B s i ≠ 0 := by
  have := q_gl_w h
  rw [q_wo_1 (by omega)]
  decide
theorem q_isn_2 (h : q_isn B s i = true) : q_tk B s i = 2 ∧ q_te B s i - q_tp B s i ≤ 4 := by
  unfold q_isn at h
  rw [Bool.and_eq_true] at h
  exact ⟨of_decide_eq_true h.1, of_decide_eq_true h.2⟩
theorem q_isn_v (hi : i ≤ s) (h : q_isn B s i = true) : q_vl B s i ≤ 9999 ∧ q_nm B (q_tp B s i) (min (q_te B s i - q_tp B s i) 4) = nI (q_vl B s i) := by
  obtain ⟨h1, h2⟩ := q_isn_2 h
  obtain ⟨a1, a2⟩ := q_nm_N _ (q_digs hi h1)
  have hp : 10 ^ (q_te B s i - q_tp B s i) ≤ 10 ^ 4 := Nat.pow_le_pow_right (by decide) h2
  unfold q_vl
  refine ⟨by have : (10 : Nat) ^ 4 = 10000 := by decide
             omega, ?_⟩
  rw [Nat.min_eq_left h2, a1]
theorem q_sn_3 (h : q_sn B s i = 59) : q_tk B s i = 3 := by
  unfold q_sn at h
  by_cases e : q_tk B s i = 3
  · exact e
  · rw [if_neg e] at h; cases h
theorem q_gl_8 (hi : i ≤ s) (hs : s ≤ 500) (h : q_gl B s i) : i + 8 ≤ q_ad B s (q_nn (q_wo B s i) + 2) i := by
  have hw := q_gl_w h
  have hk := q_wo_1 (B := B) (s := s) (i := i) (by omega)
  have hn := q_nn_b (q_wo B s i)
  have b0 := q_tp_b (B := B) hi
  have b1 := q_te_b (B := B) hi
  have hlen : 4 ≤ q_te B s i - q_tp B s i := by
    have g : q_wo B s i = 1 ∨ q_wo B s i = 2 ∨ q_wo B s i = 3 ∨ q_wo B s i = 4 := by omega
    rcases g with g | g | g | g
    · have h1 := ((q_wo_iff (j := 0) hi (by decide) hk).mp g).1
      have h2 := q_len4 0 (by decide)
      omega
    · have h1 := ((q_wo_iff (j := 1) hi (by decide) hk).mp g).1
      have h2 := q_len4 1 (by decide)
      omega
    · have h1 := ((q_wo_iff (j := 2) hi (by decide) hk).mp g).1
      have h2 := q_len4 2 (by decide)
      omega
    · have h1 := ((q_wo_iff (j := 3) hi (by decide) hk).mp g).1
      have h2 := q_len4 3 (by decide)
      omega
  have g1 := h 1 (by omega)
  rw [q_gd_n (c := 0) (by omega)] at g1
  have g2 := h 2 (by omega)
  rw [q_gd_n (c := 1) (by omega)] at g2
  have k1 := (q_isn_2 g1).1
  have k2 := (q_isn_2 g2).1
  have a1 : q_ad B s (0 + 1) i = q_te B s i := rfl
  have a2 : q_ad B s (1 + 1) i = q_te B s (q_te B s i) := rfl
  rw [a1] at k1
  rw [a2] at k2
  have b2 := q_te_b (B := B) b1.2.1
  have b3 := q_tp_b (B := B) b1.2.1
  have b4 := q_te_b (B := B) b2.2.1
  have hgap := q_te_gap b1.2.1 hs k1 k2
  have ge := h (q_nn (q_wo B s i) + 1) (by omega)
  rw [q_gd_e] at ge
  have k3 := q_sn_3 (of_decide_eq_true ge)
  have b5 := q_ad_b (B := B) hi (q_nn (q_wo B s i) + 1)
  have b6 := q_te_b (B := B) b5.2
  have b7 := q_tp_b (B := B) b5.2
  have hm : q_ad B s 3 i ≤ q_ad B s (q_nn (q_wo B s i) + 1) i := q_ad_le hi (by omega)
  have a3 : q_ad B s 3 i = q_te B s (q_te B s (q_te B s i)) := rfl
  show i + 8 ≤ q_te B s (q_ad B s (q_nn (q_wo B s i) + 1) i)
  omega
theorem q_stt_b (hs : s ≤ 500) {l : Nat} (h : ∀ k, k < l → q_gl B s (q_stt B s A0 k).1) : 8 * l ≤ (q_stt B s A0 l).1 ∧ (q_stt B s A0 l).1 ≤ s := by
  induction l with
  | zero => exact ⟨Nat.le_refl _, Nat.zero_le _⟩
  | succ l ih =>
    have h1 := ih (fun k hk => h k (by omega))
    have h2 := q_gl_8 h1.2 hs (h l (by omega))
    have h3 := q_ad_b (B := B) h1.2 (q_nn (q_wo B s (q_stt B s A0 l).1) + 2)
    show 8 * (l + 1) ≤ q_ad B s (q_nn (q_wo B s (q_stt B s A0 l).1) + 2) (q_stt B s A0 l).1 ∧ q_ad B s (q_nn (q_wo B s (q_stt B s A0 l).1) + 2) (q_stt B s A0 l).1 ≤ s
    omega
theorem q_out_u {l l2 : Nat} {F Q F2 Q2 : Int32} (h1 : q_out B s A0 l F Q) (h2 : q_out B s A0 l2 F2 Q2) : l = l2 ∧ F = F2 ∧ Q = Q2 := by
  have hn : ∀ l F Q, q_out B s A0 l F Q → ¬ q_gl B s (q_stt B s A0 l).1 := fun l F Q h g => by
    rcases h.2 with g2 | ⟨_, c, g2, _⟩
    · exact q_gl_k g g2.1
    · exact q_fb_n g2 g
  have hl : l = l2 := by
    rcases Nat.lt_trichotomy l l2 with h | h | h
    · exact absurd (h2.1 l h) (hn _ _ _ h1)
    · exact h
    · exact absurd (h1.1 l2 h) (hn _ _ _ h2)
  subst hl
  refine ⟨rfl, ?_⟩
  rcases h1.2 with ⟨a1, a2, a3⟩ | ⟨a1, c, a2, a3, a4⟩
  · rcases h2.2 with ⟨b1, b2, b3⟩ | ⟨b1, d, b2, b3, b4⟩
    · exact ⟨a2.trans b2.symm, a3.trans b3.symm⟩
    · exact absurd a1 b1
  · rcases h2.2 with ⟨b1, b2, b3⟩ | ⟨b1, d, b2, b3, b4⟩
    · exact absurd b1 a1
    · rw [q_fb_u b2 a2] at b4
      exact ⟨a3.trans b3.symm, a4.trans b4.symm⟩
end Line
