/-! the class's tokens -/
theorem c_isBlank : ∀ b, b < 256 → f_X9_isBlank (nI b) = some (bI (q_bl b)) := by decide +kernel
theorem c_sortOf : ∀ b, b < 256 → f_X9_sortOf (nI b) = some (nI (q_kd b)) := by decide +kernel
def q_wo (B : Nat → Nat) (s i : Nat) : Nat := if q_tk B s i = 1 then q_wdn (q_nc B (q_tp B s i) (q_te B s i - q_tp B s i)) else 0
def q_isn (B : Nat → Nat) (s i : Nat) : Bool := decide (q_tk B s i = 2) && decide (q_te B s i - q_tp B s i ≤ 4)
def q_sn (B : Nat → Nat) (s i : Nat) : Nat := if q_tk B s i = 3 then B (q_tp B s i) else 0
def q_vl (B : Nat → Nat) (s i : Nat) : Nat := q_nN B (q_tp B s i) (q_te B s i - q_tp B s i)
def q_TX (N : pN) (P : pR) (I : pI) (B : Nat → Nat) (s a : Nat) : Prop := P a 0 = some 2 ∧ TB N P I 2 3 500 1 s ∧ s ≤ 500 ∧ (∀ j, j < s → I 3 j = nI (B j) ∧ B j ≤ 255) ∧ (a = 56 ∨ a = 62)
def q_ct (J : pI) (B : Nat → Nat) (s a i : Nat) : Prop := J a 1 = nI (q_tk B s i) ∧ J a 2 = nI (q_tp B s i) ∧ J a 3 = nI (q_te B s i)
section CTok
variable {N : pN} {P : pR} {I J : pI} {B : Nat → Nat} {s a i j zn : Nat}
theorem q_TX.to (h : q_TX N P I B s a) (e2 : J 2 = I 2) (e3 : J 3 = I 3) : q_TX N P J B s a :=
  ⟨h.1, h.2.1.of (fun i => by rw [e2]), h.2.2.1, fun j hj => by rw [e3]; exact h.2.2.2.1 j hj, h.2.2.2.2⟩
theorem q_TX.get (h : q_TX N P I B s a) (hj : j < s) : f_X8_get N I P 2 (nI j) (nI 0) = some (nI (B j)) := by
  rw [tb_get h.2.1 hj (show 0 < 1 by decide), Nat.mul_one, Nat.add_zero, (h.2.2.2.1 j hj).1]
theorem p_it1 {S T : Type} {Bd : (S → Option T) → S → Option T} {z : Nat} {x : S} {t : T} (hz : 0 < z) (h : ∀ r, Bd r x = some t) : p_it Bd z x = some t := by
  obtain ⟨z, rfl⟩ : ∃ y, z = y + 1 := ⟨z - 1, by omega⟩
  exact h _
theorem c_adv (hX : q_TX N P I B s a) (hi : i ≤ s) (h3 : I a 3 = nI i) (hn : 600 < zn) : ∃ J, f_X9_advance zn N I P a = some J ∧ (∀ x, x ≠ a → J x = I x) ∧ (∀ k, k ≠ 1 → k ≠ 2 → k ≠ 3 → J a k = I a k) ∧ q_ct J B s a i := by
  obtain ⟨hp, hT, hs, hb, ha⟩ := hX
  have hX : q_TX N P I B s a := ⟨hp, hT, hs, hb, ha⟩
  have ha2 : 2 ≠ a := by omega
  have ha3 : 3 ≠ a := by omega
  have b0 := q_tp_b (B := B) hi
  have hloop := p_loopI (B := B_X9_advance_8 N P a) (zJ := fun zm (zc : pI) => (∀ x, x ≠ a → zc x = I x) ∧ (∀ k, k ≠ 2 → zc a k = I a k) ∧ zc a 2 = nI (i + zm) ∧ i + zm ≤ s ∧ q_sc (fun j => q_bl (B j)) s (501 - zm) (i + zm) = q_tp B s i) (zE := fun (zt : pI) => (∀ x, x ≠ a → zt x = I x) ∧ (∀ k, k ≠ 2 → zt a k = I a k) ∧ zt a 2 = nI (q_tp B s i)) (zm := 501) (zn := zn) (by omega) ?_ ?_ (p_u I a 2 (I a 3)) ⟨fun x hx => p_u_ne hx, fun k hk => p_u_nk hk, by rw [p_u_self, h3]; rfl, hi, rfl⟩
  · obtain ⟨J1, l1, l2, l3, l4⟩ := hloop
    have e2 : J1 2 = I 2 := l2 2 ha2
    have e3 : J1 3 = I 3 := l2 3 ha3
    by_cases hc : q_tp B s i < s
    · have hk0 : q_tk B s i ≠ 0 := fun e => by have := (q_tk_0 (B := B) hi).mp e; omega
      obtain ⟨_, k2⟩ := q_tk_k hi hk0
      have hx2 : q_TX N P (p_u (p_u J1 a 3 (nI (q_tp B s i))) a 1 (nI 0)) B s a := hX.to (by rw [p_u_ne ha2, p_u_ne ha2, e2]) (by rw [p_u_ne ha3, p_u_ne ha3, e3])
      have hb255 := (hb _ hc).2
      have hK4 := q_tk_b (B := B) hi
      -- the second loop
      have hfin : ∃ J2, p_it (B_X9_advance_110 N P a) zn (p_u (p_u (p_u (p_u J1 a 3 (nI (q_tp B s i))) a 1 (nI 0)) a 1 (nI (q_tk B s i))) a 3 (nI (q_tp B s i + 1))) = some J2 ∧ (∀ x, x ≠ a → J2 x = I x) ∧ (∀ k, k ≠ 3 → k ≠ 1 → J2 a k = J1 a k) ∧ J2 a 1 = nI (q_tk B s i) ∧ J2 a 3 = nI (q_te B s i) := by
        generalize hz : p_u (p_u (p_u (p_u J1 a 3 (nI (q_tp B s i))) a 1 (nI 0)) a 1 (nI (q_tk B s i))) a 3 (nI (q_tp B s i + 1)) = J3
        have z1 : ∀ x, x ≠ a → J3 x = I x := fun x hx => by rw [← hz, p_u_ne hx, p_u_ne hx, p_u_ne hx, p_u_ne hx, l2 x hx]
        have z2 : ∀ k, k ≠ 3 → k ≠ 1 → J3 a k = J1 a k := fun k h1 h2 => by rw [← hz, p_u_nk h1, p_u_nk h2, p_u_nk h2, p_u_nk h1]
        have z3 : J3 a 1 = nI (q_tk B s i) := by rw [← hz, p_u_nk (by decide), p_u_self]
        have z4 : J3 a 3 = nI (q_tp B s i + 1) := by rw [← hz, p_u_self]
        by_cases hk : q_tk B s i = 1 ∨ q_tk B s i = 2
        · have hte : q_te B s i = q_sc (fun j => decide (q_kd (B j) = q_tk B s i)) s 501 (q_tp B s i + 1) := by
            unfold q_te
            rw [if_neg hk0, if_pos hk]
          have hl2 := p_loopI (B := B_X9_advance_110 N P a) (zJ := fun zm (zc : pI) => (∀ x, x ≠ a → zc x = I x) ∧ (∀ k, k ≠ 3 → k ≠ 1 → zc a k = J1 a k) ∧ zc a 1 = nI (q_tk B s i) ∧ zc a 3 = nI (q_tp B s i + 1 + zm) ∧ q_tp B s i + 1 + zm ≤ s ∧ q_sc (fun j => decide (q_kd (B j) = q_tk B s i)) s (501 - zm) (q_tp B s i + 1 + zm) = q_te B s i) (zE := fun (zt : pI) => (∀ x, x ≠ a → zt x = I x) ∧ (∀ k, k ≠ 3 → k ≠ 1 → zt a k = J1 a k) ∧ zt a 1 = nI (q_tk B s i) ∧ zt a 3 = nI (q_te B s i)) (zm := 501) (zn := zn) (by omega) ?_ ?_ J3 ⟨z1, z2, z3, by rw [z4], by omega, by rw [hte]⟩
          · exact hl2
          · rintro zm hm zc ⟨m1, m2, m3, m4, m5, m6⟩
            have hxc : q_TX N P zc B s a := hX.to (m1 2 ha2) (m1 3 ha3)
            have hJ : ∀ zrec, B_X9_advance_110 N P a zrec zc = J_X9_advance_126 N zc P zrec a := fun zrec => by
              unfold B_X9_advance_110
              rw [m3]
              rcases hk with hk | hk
              · rw [hk, if_pos rfl]
              · rw [hk, if_neg (by decide), if_pos rfl]
            have hf : 501 - zm = 501 - (zm + 1) + 1 := by omega
            rw [hf, q_sc_s] at m6
            by_cases hend : q_tp B s i + 1 + zm < s
            · have hbz := (hb _ hend).2
              have hg : f_X8_get N zc P 2 (nI (q_tp B s i + 1 + zm)) (nI 0) = some (nI (B (q_tp B s i + 1 + zm))) := hxc.get hend
              have hso := c_sortOf (B (q_tp B s i + 1 + zm)) (by omega)
              have hle : ¬ nI s ≤ nI (q_tp B s i + 1 + zm) := nI_ge hend (by omega)
              have hkb := q_kd_b (B (q_tp B s i + 1 + zm))
              by_cases hkk : q_kd (B (q_tp B s i + 1 + zm)) = q_tk B s i
              · left
                rw [if_pos ⟨hend, decide_eq_true hkk⟩] at m6
                refine ⟨p_u zc a 3 (nI (q_tp B s i + 1 + (zm + 1))), ⟨fun x hx => by rw [p_u_ne hx]; exact m1 x hx, fun k h1 h2 => by rw [p_u_nk h1]; exact m2 k h1 h2, by rw [p_u_nk (by decide)]; exact m3, p_u_self, by omega, m6⟩, fun zrec => ?_⟩
                rw [hJ zrec]
                unfold J_X9_advance_126
                simp only [hp, Option.bind_some, tb_size hxc.2.1, m4, m3, if_neg hle, hg, hso, if_pos (congrArg nI hkk), n_let, nI_add]
                rfl
              · right
                rw [if_neg (fun h => hkk (of_decide_eq_true h.2))] at m6
                have hne : ¬ nI (q_kd (B (q_tp B s i + 1 + zm))) = nI (q_tk B s i) := fun e => hkk ((nI_eq (by omega) (by omega)).mp e)
                refine ⟨zc, ⟨m1, m2, m3, by rw [m4, m6]⟩, fun zrec => ?_⟩
                rw [hJ zrec]
                unfold J_X9_advance_126
                simp only [hp, Option.bind_some, tb_size hxc.2.1, m4, m3, if_neg hle, hg, hso, if_neg hne]
            · right
              rw [if_neg (fun h => hend h.1)] at m6
              have hle : nI s ≤ nI (q_tp B s i + 1 + zm) := nI_le (by omega) (by omega)
              refine ⟨zc, ⟨m1, m2, m3, by rw [m4, m6]⟩, fun zrec => ?_⟩
              rw [hJ zrec]
              unfold J_X9_advance_126
              simp only [hp, Option.bind_some, tb_size hxc.2.1, m4, if_pos hle]
          · rintro zc ⟨m1, m2, m3, m4, m5, m6⟩
            omega
        · have hte : q_te B s i = q_tp B s i + 1 := by
            unfold q_te
            rw [if_neg hk0, if_neg hk]
          refine ⟨J3, p_it1 (by omega) (fun r => ?_), z1, z2, z3, by rw [z4, hte]⟩
          unfold B_X9_advance_110
          rw [z3, if_neg (fun e => hk (Or.inl ((nI_eq (by omega) (by decide)).mp e))), if_neg (fun e => hk (Or.inr ((nI_eq (by omega) (by decide)).mp e)))]
      obtain ⟨J2, f1, f2, f3, f4, f5⟩ := hfin
      refine ⟨J2, ?_, f2, fun k h1 h2 h3' => by rw [f3 k h3' h1, l3 k h2], f4, by rw [f3 2 (by decide) (by decide), l4], f5⟩
      unfold f_X9_advance
      have e22 : p_u (p_u J1 a 3 (nI (q_tp B s i))) a 1 (nI 0) a 2 = nI (q_tp B s i) := by rw [p_u_nk (by decide), p_u_nk (by decide), l4]
      have e23 : p_u (p_u (p_u J1 a 3 (nI (q_tp B s i))) a 1 (nI 0)) a 1 (nI (q_tk B s i)) a 2 = nI (q_tp B s i) := by rw [p_u_nk (by decide), e22]
      have hlt : nI (q_tp B s i) < nI s := nI_lt hc (by omega)
      have hso := c_sortOf (B (q_tp B s i)) (by omega)
      rw [k2] at hso
      simp only [n_let, l1, Option.bind_some, l4, hp, tb_size hx2.2.1, e22, if_pos hlt, hx2.get hc, hso, e23, nI_add, f1]
    · have hts : q_tp B s i = s := by omega
      have hk0 : q_tk B s i = 0 := (q_tk_0 hi).mpr hts
      have hte : q_te B s i = q_tp B s i := by
        unfold q_te
        rw [if_pos hk0]
      have hx2 : q_TX N P (p_u (p_u J1 a 3 (nI (q_tp B s i))) a 1 (nI 0)) B s a := hX.to (by rw [p_u_ne ha2, p_u_ne ha2, e2]) (by rw [p_u_ne ha3, p_u_ne ha3, e3])
      refine ⟨p_u (p_u J1 a 3 (nI (q_tp B s i))) a 1 (nI 0), ?_, fun x hx => by rw [p_u_ne hx, p_u_ne hx, l2 x hx], fun k h1 h2 h3' => by rw [p_u_nk h1, p_u_nk h3', l3 k h2], by rw [p_u_self, hk0], by rw [p_u_nk (by decide), p_u_nk (by decide), l4], by rw [p_u_nk (by decide), p_u_self, hte]⟩
      unfold f_X9_advance
      have e22 : p_u (p_u J1 a 3 (nI (q_tp B s i))) a 1 (nI 0) a 2 = nI (q_tp B s i) := by rw [p_u_nk (by decide), p_u_nk (by decide), l4]
      have hlt : ¬ nI (q_tp B s i) < nI s := nI_nlt (by omega) (by omega)
      simp only [n_let, l1, Option.bind_some, l4, hp, tb_size hx2.2.1, e22, if_neg hlt]
  · rintro zm hm zc ⟨m1, m2, m3, m4, m5⟩
    have hxc : q_TX N P zc B s a := hX.to (m1 2 ha2) (m1 3 ha3)
    have hf : 501 - zm = 501 - (zm + 1) + 1 := by omega
    rw [hf, q_sc_s] at m5
    by_cases hend : i + zm < s
    · have hbz := (hb _ hend).2
      have hle : ¬ nI s ≤ nI (i + zm) := nI_ge hend (by omega)
      have hbl := c_isBlank (B (i + zm)) (by omega)
      cases hq : q_bl (B (i + zm)) with
      | true =>
        left
        rw [if_pos ⟨hend, hq⟩] at m5
        rw [hq] at hbl
        refine ⟨p_u zc a 2 (nI (i + (zm + 1))), ⟨fun x hx => by rw [p_u_ne hx]; exact m1 x hx, fun k hk => by rw [p_u_nk hk]; exact m2 k hk, p_u_self, by omega, m5⟩, fun zrec => ?_⟩
        unfold B_X9_advance_8
        simp only [hp, Option.bind_some, tb_size hxc.2.1, m3, if_neg hle, hxc.get hend, hbl, bI_ift, n_let, nI_add]
        rfl
      | false =>
        right
        rw [if_neg (fun h => by rw [hq] at h; cases h.2)] at m5
        rw [hq] at hbl
        refine ⟨zc, ⟨m1, m2, by rw [m3, m5]⟩, fun zrec => ?_⟩
        unfold B_X9_advance_8
        simp only [hp, Option.bind_some, tb_size hxc.2.1, m3, if_neg hle, hxc.get hend, hbl, bI_iff]
    · right
      rw [if_neg (fun h => hend h.1)] at m5
      have hle : nI s ≤ nI (i + zm) := nI_le (by omega) (by omega)
      refine ⟨zc, ⟨m1, m2, by rw [m3, m5]⟩, fun zrec => ?_⟩
      unfold B_X9_advance_8
      simp only [hp, Option.bind_some, tb_size hxc.2.1, m3, if_pos hle]
  · rintro zc ⟨m1, m2, m3, m4, m5⟩
    omega
end CTok
