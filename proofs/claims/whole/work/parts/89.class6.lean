/-! the class: sight, one mirror -/
theorem q_dif : ∀ zi, zi < 21 → ∀ zj, zj < 21 → (nI zi - nI zj).toInt64 = (nI zi).toInt64 - (nI zj).toInt64 := by decide +kernel
theorem q_difR {x1 x2 : Int32} (h1 : rg x1 20) (h2 : rg x2 20) : x1.toInt64 - x2.toInt64 = (x1 - x2).toInt64 := by
  have e := q_dif (nv x1) (by have := h1.2; omega) (nv x2) (by have := h2.2; omega)
  rw [← h1.1, ← h2.1] at e
  exact e.symm
/-- where the finder stands: from, to, the power, the barriers -/
def c_cs (I : pI) (L : pL) (T : Nat → Int32) (fx fy pw tx ty : Int32) : Prop := q_bars I T ∧ I 21 12 = pw ∧ c_pt L 22 = (fx.toInt64, fy.toInt64, 1) ∧ c_pt L 23 = (tx.toInt64, ty.toInt64, 1)
def c_lf (L K : pL) : Prop := ∀ zx, zx < 24 ∨ 28 < zx → K zx = L zx
theorem c_lf.rf {L : pL} : c_lf L L := fun _ _ => rfl
theorem c_lf.tr {L K M : pL} (h1 : c_lf L K) (h2 : c_lf K M) : c_lf L M := fun zx hx => (h2 zx hx).trans (h1 zx hx)
theorem q_bars.fr {I J : pI} {T : Nat → Int32} (h1 : q_bars I T) (h2 : c_fr I J) : q_bars J T := by
  intro zw hw
  have e : J (43 - zw) = I (43 - zw) := h2.1 _ (by omega) (by omega) (by omega) (by omega)
  have h3 := h1 zw hw
  unfold q_bar at h3 ⊢
  rw [e]
  exact h3
theorem c_cs.fr {I J : pI} {L K : pL} {T : Nat → Int32} {fx fy pw tx ty : Int32} (h1 : c_cs I L T fx fy pw tx ty) (h2 : c_fr I J) (h3 : c_lf L K) : c_cs J K T fx fy pw tx ty := by
  obtain ⟨a1, a2, a3, a4⟩ := h1
  refine ⟨a1.fr h2, (h2.2 12 (by decide)).trans a2, ?_, ?_⟩
  · unfold c_pt at a3 ⊢; rw [h3 22 (by decide)]; exact a3
  · unfold c_pt at a4 ⊢; rw [h3 23 (by decide)]; exact a4
/-- walls that are seen: their numbers -/
def q_wfs (T : Nat → Int32) : Prop := nv (T 0) ≤ 12 ∧ ∀ zw, q_seeW T zw = true → ∀ zk, zk < 4 → rg (q_w T zw zk) 20
section Class6
variable {N : pN} {P : pR} {I : pI} {L : pL} {T : Nat → Int32} {fx fy pw tx ty : Int32}
theorem c_sight (hG : GW N P) (hwf : q_wfs T) (hf1 : rg fx 20) (hf2 : rg fy 20) (ht1 : rg tx 20) (ht2 : rg ty 20) (hpw : rg pw 9999) (hc : c_cs I L T fx fy pw tx ty) {l : List qW} (hF : q_FR N P I l) (hlen : l.length < 169) {zn : Nat} (hn : 12 < zn) : ∃ J K, f_X2_searchSight zn N I L P 21 = some (J, K) ∧ q_FR N P J (l ++ q_S T fx fy pw tx ty) ∧ c_fr I J ∧ c_lf L K := by
  obtain ⟨hB, h12, hp22, hp23⟩ := id hc
  have a0 : L 22 0 = fx.toInt64 := congrArg Prod.fst hp22
  have a1 : L 22 1 = fy.toInt64 := congrArg (fun q : qP => q.2.1) hp22
  have b0 : L 23 0 = tx.toInt64 := congrArg Prod.fst hp23
  have b1 : L 23 1 = ty.toInt64 := congrArg (fun q : qP => q.2.1) hp23
  obtain ⟨zs, hs1, hs2⟩ := q_sqN hf1 hf2 ht1 ht2
  have hsq : f_X6_squareTo L 22 23 = some (nI zs) := by
    unfold f_X6_squareTo
    rw [a0, a1, b0, b1, q_difR hf1 ht1, q_difR hf2 ht2]
    have h9 : (q_sq (fx - tx).toInt64 (fy - ty).toInt64).toInt32 = nI zs := by rw [hs2, lN_i]
    exact congrArg some h9
  have hpn : I 21 12 = nI (nv pw) := h12.trans hpw.1
  obtain ⟨s1, s2⟩ := c_spread (I := I) (zd := zs) hpn hpw.2 (by omega)
  rw [← hpw.1] at s1 s2
  obtain ⟨K, k1, k2, k3⟩ := c_carryS (L := L) hG hB hwf.1 s2 (a2 := 22) (a3 := 23) (by decide) (by decide) hn
  rw [hp22, hp23, ← hs2] at k1 k3
  obtain ⟨J, j1, j2, j3⟩ := c_keep (k1 := nI 0) (f1 := -1) (g1 := -1) (a1 := q_sq (fx - tx).toInt64 (fy - ty).toInt64) (c1 := 0) hG hF hlen k3
  have e0 : (0 : Int64).toInt32 = nI 0 := by decide
  rw [hs2, lN_i, e0] at j1
  rw [← hs2] at j1
  refine ⟨J, K, ?_, ?_, j3, fun zx hx => k2 zx (by omega)⟩
  · unfold f_X2_searchSight
    rw [gp_21_1 hG, Option.bind_some, gp_21_2 hG, Option.bind_some, hsq, Option.bind_some, s1, Option.bind_some, Option.bind_some, Option.bind_some, ← hs2, k1, Option.bind_some]
    dsimp only
    rw [j1, Option.bind_some]
  · unfold q_S q_sg
    rw [← q_add_nil]
    exact j2
end Class6
