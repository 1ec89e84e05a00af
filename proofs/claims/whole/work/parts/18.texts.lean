/-! texts: String.length, String.charAt -/
theorem fj_9 : Cond.fieldLink RJ0 9 RJ0 "value" "[B" ∈ p_tbl := p_t8 (i := 48) rfl rfl
theorem fj_15 : Cond.fieldLink RJ0 15 RJ0 "coder" "B" ∈ p_tbl := p_t8 (i := 49) rfl rfl
theorem fj_38 : Cond.fieldLink RJ0 38 RJ0 "COMPACT_STRINGS" "Z" ∈ p_tbl := p_t3 (i := 27) rfl rfl
theorem fj_1053 : Cond.fieldLink RJ0 1053 RJ3 "SIOOBE_FORMATTER" "Ljava/util/function/BiFunction;" ∈ p_tbl := p_t3 (i := 43) rfl rfl
theorem p_adT (G : pG) (j : Nat) : p_ad G (1000100 + j) = g_t G (100 + j) := by
  rw [show 1000100 + j = 1000000 + (100 + j) by omega]
  exact p_ad_st G (100 + j)
theorem p_adV (G : pG) (j : Nat) : p_ad G (1000200 + j) = g_t G (200 + j) := by
  rw [show 1000200 + j = 1000000 + (200 + j) by omega]
  exact p_ad_st G (200 + j)
section Texts
variable {G : pG} {M M' : pM} {mc ms cs sl d n : Nat} {R : Room} {Q : pQ} {pc : Nat} {lo lo' : List (Nat × Value)} {st st0 as : List Value} {N N' : pN} {I I' : pI} {L L' : pL} {P P' : pR}
theorem y_callT1 {idx a : Nat} {v : Value} (hd : decode M.2.1 pc = .ok (.invokevirtual idx, 3)) (hM : MT G M' (d - 1) 0 0 (.ref a :: as) N I L P (p_R (some v) N' I' L' P')) (hk : p_MK M' n) (hv : p_MV M') (hlk : Cond.methodLink M.1.cls idx M'.1 ∈ p_tbl) (hn : as.length = n) (hst : st0 = as.reverse ++ .ref a :: st) (hcat : (st.map fun v => v.category).sum ≤ 8) (ha : p_sx a) (hcn : M'.1.cls = "java/lang/String") (h1 : 1 ≤ d) (hm : M'.2.2.1 ≤ 81)
    (kk : SW G M (p_rm d 0 0) 0 0 0 0 Q (pc + 3) lo (v :: st) N' I' L' P') : SW G M (p_rm d 0 0) 0 0 0 0 Q pc lo st0 N I L P := by
  intro p e s m args below meth c H locs ls B hH hS hl
  have hts := B.2.2.2.2.2.2.2.1
  obtain ⟨j, hj, rfl⟩ : ∃ j, j < 16 ∧ a = 1000100 + j := ⟨a - 1000100, by have := ha.1; have := ha.2; omega, by have := ha.1; omega⟩
  have hadr : p_v G (.ref (1000100 + j)) = .ref (g_t G (100 + j)) := by show Value.ref (p_ad G (1000100 + j)) = _; rw [p_adT]
  have hrecv : ∃ cellB : Cell, H[g_t G (100 + j)]? = some cellB ∧ cellB.vm.isStatics = false ∧ s.vm.findClass M'.1.cls = some cellB.cls := by
    rw [hcn]
    exact vk_recv (adK := fun j => g_t G (100 + j)) B.2.2.2.2.2.2.2.2.2.2.2.2.2.2.2.1 hj hS
  have hR := p_rr (d := d) h1 hm
  refine p_back (mc' := 0) (ms' := 0) B hH hS hl (va_runV (As := as.map (p_v G)) (rest := st.map (p_v G)) (b := g_t G (100 + j)) (C := M'.1.cls) (n := n) (g := F0 m pc ls (st0.map (p_v G))) ⟨B.1, B.2.1, B.2.2.1, B.2.2.2.2.2.1, hts⟩ hM ⟨callB_of n hts (p_good hk.1) rfl rfl rfl (hts _ hk.2.1) (hts _ hlk) hk.2.2 ⟨hR.1, by show 8 + (M'.2.2.1 + 11) + 100 * (d - 1) ≤ (p_rm d 0 0).locals; have := hR.2; omega⟩, hts _ hv.1, hts _ hv.2⟩ ⟨p_blind, hrecv, fun U hU hW => ⟨?_, p_pre B hH hS U hU hW, by rw [hU]; exact hH⟩⟩ rfl (by rw [List.length_map]; exact hn) hl.1 ?_ (lv_room (by rw [p_cat]; exact hcat)) hd ⟨Nat.le_refl _, Nat.le_refl _⟩) (fun _ _ _ _ _ h => by obtain ⟨rfl, rfl, rfl, rfl, rfl⟩ := h; exact kk)
  · rw [List.map_cons, hadr]
  · show st0.map (p_v G) = _
    rw [hst, List.map_append, List.map_reverse, List.map_cons, hadr]
theorem t_value {j : Nat} (hd : decode M.2.1 pc = .ok (.getfield 9, 3)) (hM : M.1.cls = RJ0) (hj : j < 16) (kk : SW G M R mc ms cs sl Q (pc + 3) lo (.ref (1000200 + j) :: st) N I L P) : SW G M R mc ms cs sl Q pc lo (.ref (1000100 + j) :: st) N I L P := by
  intro p e s m args below meth c H locs ls B hH hS hl
  have hts := B.2.2.2.2.2.2.2.1
  have e1 := p_adT G j
  have e2 := p_adV G j
  show W _ _ _ _ _ _ _ _ _ _ _ _ _ _ _ (F0 m pc ls (.ref (p_ad G (1000100 + j)) :: st.map (p_v G)))
  rw [e1]
  refine vk_getf B.1 B.2.1 (B.2.2.2.2.2.2.2.2.2.2.2.2.2.2.2.1.1 j hj).2.2.1 hS B.2.2.2.2.2.1 (hts _ (by rw [hM]; exact fj_9)) (fun _ h => h) hd ?_
  show W _ _ _ _ _ _ _ _ _ _ _ _ _ _ _ (F0 m (pc + 3) ls (.ref (g_t G (200 + j)) :: st.map (p_v G)))
  rw [← e2]
  exact kk p e s m args below meth c H locs ls B hH hS hl
theorem t_coder {j : Nat} (hd : decode M.2.1 pc = .ok (.getfield 15, 3)) (hM : M.1.cls = RJ0) (hj : j < 16) (kk : SW G M R mc ms cs sl Q (pc + 3) lo (.int 0 :: st) N I L P) : SW G M R mc ms cs sl Q pc lo (.ref (1000100 + j) :: st) N I L P := by
  intro p e s m args below meth c H locs ls B hH hS hl
  have hts := B.2.2.2.2.2.2.2.1
  have e1 := p_adT G j
  show W _ _ _ _ _ _ _ _ _ _ _ _ _ _ _ (F0 m pc ls (.ref (p_ad G (1000100 + j)) :: st.map (p_v G)))
  rw [e1]
  exact vk_getf B.1 B.2.1 (B.2.2.2.2.2.2.2.2.2.2.2.2.2.2.2.1.1 j hj).2.1 hS B.2.2.2.2.2.1 (hts _ (by rw [hM]; exact fj_15)) (fun _ h => h) hd (kk p e s m args below meth c H locs ls B hH hS hl)
theorem t_vlen {j : Nat} (hd : decode M.2.1 pc = .ok (.arraylength, 1)) (hj : j < 16) (kk : SW G M R mc ms cs sl Q (pc + 1) lo (.int (nI (p_len.getD j 0)) :: st) N I L P) : SW G M R mc ms cs sl Q pc lo (.ref (1000200 + j) :: st) N I L P := by
  intro p e s m args below meth c H locs ls B hH hS hl
  have e2 := p_adV G j
  show W _ _ _ _ _ _ _ _ _ _ _ _ _ _ _ (F0 m pc ls (.ref (p_ad G (1000200 + j)) :: st.map (p_v G)))
  rw [e2]
  exact va_tlen B.1 B.2.1 (B.2.2.2.2.2.2.2.2.2.2.2.2.2.2.2.1.1 j hj).2.2.2 hS rfl hd (kk p e s m args below meth c H locs ls B hH hS hl)
theorem t_vald {j : Nat} {i : Int32} (hd : decode M.2.1 pc = .ok (.baload, 1)) (hj : j < 16) (hi : vp_in i (p_len.getD j 0)) (kk : SW G M R mc ms cs sl Q (pc + 1) lo (.int ((p_byt.getD j []).getD i.toNatClampNeg 0) :: st) N I L P) : SW G M R mc ms cs sl Q pc lo (.int i :: .ref (1000200 + j) :: st) N I L P := by
  intro p e s m args below meth c H locs ls B hH hS hl
  have e2 := p_adV G j
  show W _ _ _ _ _ _ _ _ _ _ _ _ _ _ _ (F0 m pc ls (.int i :: .ref (p_ad G (1000200 + j)) :: st.map (p_v G)))
  rw [e2]
  exact va_tb B.1 B.2.1 (B.2.2.2.2.2.2.2.2.2.2.2.2.2.2.2.1.1 j hj).2.2.2 hS hi rfl hd (kk p e s m args below meth c H locs ls B hH hS hl)
theorem t_compact (hd : decode M.2.1 pc = .ok (.getstatic 38, 3)) (hM : M.1.cls = RJ0) (kk : SW G M R mc ms cs sl Q (pc + 3) lo (.int 1 :: st) N I L P) : SW G M R mc ms cs sl Q pc lo st N I L P := by
  intro p e s m args below meth c H locs ls B hH hS hl
  have hts := B.2.2.2.2.2.2.2.1
  exact va_gets B.1 B.2.1 B.2.2.2.2.2.2.2.2.2.2.2.2.2.1.1 hS B.2.2.2.2.2.1 (hts _ (by rw [hM]; exact fj_38)) (fun _ h => h) hd (kk p e s m args below meth c H locs ls B hH hS hl)
theorem t_form (hd : decode M.2.1 pc = .ok (.getstatic 1053, 3)) (hM : M.1.cls = RJ0) (kN : SW G M R mc ms cs sl Q (pc + 3) lo (.null :: st) N I L P) (kk : SW G M R mc ms cs sl Q (pc + 3) lo (.ref 1000060 :: st) N I L P) : SW G M R mc ms cs sl Q pc lo st N I L P := by
  intro p e s m args below meth c H locs ls B hH hS hl
  have hts := B.2.2.2.2.2.2.2.1
  have e1 : p_ad G 1000060 = g_t G 60 := p_ad_st G 60
  rcases B.2.2.2.2.2.2.2.2.2.2.2.2.2.1.2 with hz1 | hz1
  · exact va_gets B.1 B.2.1 hz1 hS B.2.2.2.2.2.1 (hts _ (by rw [hM]; exact fj_1053)) (fun _ h => h) hd (kN p e s m args below meth c H locs ls B hH hS hl)
  · refine va_gets B.1 B.2.1 hz1 hS B.2.2.2.2.2.1 (hts _ (by rw [hM]; exact fj_1053)) (fun _ h => h) hd ?_
    rw [← e1]
    exact kk p e s m args below meth c H locs ls B hH hS hl
theorem t_i2cc {x v : Int32} (hd : decode M.2.1 pc = .ok (.i2c, 1)) (hv : (x.toUInt32 % 65536).toInt32 = v) (kk : SW G M R mc ms cs sl Q (pc + 1) lo (.int v :: st) N I L P) : SW G M R mc ms cs sl Q pc lo (.int x :: st) N I L P :=
  fun p e s m args below meth c H locs ls B hH hS hl => lv_i2c B.1 B.2.1 hd hv (kk p e s m args below meth c H locs ls B hH hS hl)
end Texts
theorem p_sxj {a : Nat} (h : p_sx a) : ∃ j, j < 16 ∧ a = 1000100 + j := ⟨a - 1000100, by have := h.1; have := h.2; omega, by have := h.1; omega⟩
theorem c_J0_coder_7d493 {G : pG} {d : Nat} {N : pN} {I : pI} {L : pL} {P : pR} {a0 : Nat} (ha0 : p_sx a0) : MT G mJ0_coder_7d493 d 0 0 [.ref a0] N I L P (p_R (some (.int 0)) N I L P) := by
  obtain ⟨j, hj, rfl⟩ := p_sxj ha0
  refine MT.of rfl (Nat.le_of_ble_eq_true rfl) ?_
  show SW G mJ0_coder_7d493 (p_rm d 0 0) 0 0 0 0 (p_R (some (.int 0)) N I L P) 0 [(0, .ref (1000100 + j))] [] N I L P
  refine t_compact (pc := 0) dJ0_coder_7d493_0 rfl ?_
  refine s_if_eq (pc := 3) (tgt := 13) dJ0_coder_7d493_3 rfl (fun hc => absurd hc (by decide)) (fun _ => ?_)
  refine s_aload_n (pc := 6) dJ0_coder_7d493_6 0 rfl rfl ?_
  refine t_coder (pc := 7) dJ0_coder_7d493_7 rfl hj ?_
  refine s_goto (pc := 10) (tgt := 14) dJ0_coder_7d493_10 rfl ?_
  exact s_ireturn (pc := 14) dJ0_coder_7d493_14 rfl rfl ⟨rfl, rfl, rfl, rfl, rfl⟩
theorem p_lenshr : ∀ j, j < 16 → (nI (p_len.getD j 0)) >>> ((0 : Int32) &&& 31) = nI (p_len.getD j 0) := by decide +kernel
theorem c_J0_length_8abf5 {G : pG} {d : Nat} {N : pN} {I : pI} {L : pL} {P : pR} {a0 : Nat} {qq : Int32} (hd : 4 ≤ d) (hW : WT N P) (ha0 : p_sx a0) (hf : f_J0_length_8abf5 a0 = some qq) : MT G mJ0_length_8abf5 d 0 0 [.ref a0] N I L P (p_R (some (.int qq)) N I L P) := by
  obtain ⟨j, hj, rfl⟩ := p_sxj ha0
  unfold f_J0_length_8abf5 at hf
  rw [Nat.add_sub_cancel_left] at hf
  refine MT.of rfl (Nat.le_of_ble_eq_true rfl) ?_
  show SW G mJ0_length_8abf5 (p_rm d 0 0) 0 0 0 0 (p_R (some (.int qq)) N I L P) 0 [(0, .ref (1000100 + j))] [] N I L P
  refine s_aload_n (pc := 0) dJ0_length_8abf5_0 0 rfl rfl ?_
  refine t_value (pc := 1) dJ0_length_8abf5_1 rfl hj ?_
  refine t_vlen (pc := 4) dJ0_length_8abf5_4 hj ?_
  refine s_aload_n (pc := 5) dJ0_length_8abf5_5 0 rfl rfl ?_
  refine y_callT1 (pc := 6) dJ0_length_8abf5_6 (c_J0_coder_7d493 ha0) mk_J0_coder_7d493 mv_J0_coder_7d493 ml_J0_335 rfl rfl (Nat.le_of_ble_eq_true rfl) ha0 rfl (p_d1 hd (by decide)) (Nat.le_of_ble_eq_true rfl) ?_
  refine s_ishr (pc := 9) dJ0_length_8abf5_9 ?_
  rw [p_lenshr j hj]
  cases hf
  exact s_ireturn (pc := 10) dJ0_length_8abf5_10 rfl rfl ⟨rfl, rfl, rfl, rfl, rfl⟩
theorem c_J0_isLatin1_aae02 {G : pG} {d : Nat} {N : pN} {I : pI} {L : pL} {P : pR} {a0 : Nat} (ha0 : p_sx a0) : MT G mJ0_isLatin1_aae02 d 0 0 [.ref a0] N I L P (p_R (some (.int 1)) N I L P) := by
  obtain ⟨j, hj, rfl⟩ := p_sxj ha0
  refine MT.of rfl (Nat.le_of_ble_eq_true rfl) ?_
  show SW G mJ0_isLatin1_aae02 (p_rm d 0 0) 0 0 0 0 (p_R (some (.int 1)) N I L P) 0 [(0, .ref (1000100 + j))] [] N I L P
  refine t_compact (pc := 0) dJ0_isLatin1_aae02_0 rfl ?_
  refine s_if_eq (pc := 3) (tgt := 17) dJ0_isLatin1_aae02_3 rfl (fun hc => absurd hc (by decide)) (fun _ => ?_)
  refine s_aload_n (pc := 6) dJ0_isLatin1_aae02_6 0 rfl rfl ?_
  refine t_coder (pc := 7) dJ0_isLatin1_aae02_7 rfl hj ?_
  refine s_if_ne (pc := 10) (tgt := 17) dJ0_isLatin1_aae02_10 rfl (fun hc => absurd rfl hc) (fun _ => ?_)
  refine s_iconst (pc := 13) dJ0_isLatin1_aae02_13 (v := 1) rfl ?_
  refine s_goto (pc := 14) (tgt := 18) dJ0_isLatin1_aae02_14 rfl ?_
  exact s_ireturn (pc := 18) dJ0_isLatin1_aae02_18 rfl rfl ⟨rfl, rfl, rfl, rfl, rfl⟩
theorem c_J3_checkIndex_8e157 {G : pG} {d : Nat} {N : pN} {I : pI} {L : pL} {P : pR} {x0 x1 : Int32} {v2 : Value} (hv2 : v2 = .null ∨ v2 = .ref 1000060) (h0 : ¬ x0 < 0) (h1 : x0 < x1) : MT G mJ3_checkIndex_8e157 d 0 0 [.int x0, .int x1, v2] N I L P (p_R (some (.int x0)) N I L P) := by
  refine MT.of rfl (by rcases hv2 with rfl | rfl <;> exact Nat.le_of_ble_eq_true rfl) ?_
  show SW G mJ3_checkIndex_8e157 (p_rm d 0 0) 0 0 0 0 (p_R (some (.int x0)) N I L P) 0 [(0, .int x0), (1, .int x1), (2, v2)] [] N I L P
  refine s_iload_n (pc := 0) dJ3_checkIndex_8e157_0 0 rfl rfl ?_
  refine s_if_lt (pc := 1) (tgt := 9) dJ3_checkIndex_8e157_1 rfl (fun hc => absurd hc h0) (fun _ => ?_)
  refine s_iload_n (pc := 4) dJ3_checkIndex_8e157_4 0 rfl rfl ?_
  refine s_iload_n (pc := 5) dJ3_checkIndex_8e157_5 1 rfl rfl ?_
  refine s_icmp_lt (pc := 6) (tgt := 16) dJ3_checkIndex_8e157_6 rfl (fun _ => ?_) (fun hc => absurd h1 hc)
  refine s_iload_n (pc := 16) dJ3_checkIndex_8e157_16 0 rfl rfl ?_
  exact s_ireturn (pc := 17) dJ3_checkIndex_8e157_17 rfl rfl ⟨rfl, rfl, rfl, rfl, rfl⟩
theorem c_J0_checkIndex_df160 {G : pG} {d : Nat} {N : pN} {I : pI} {L : pL} {P : pR} {x0 x1 : Int32} (hd : 1 ≤ d) (h0 : ¬ x0 < 0) (h1 : x0 < x1) : MT G mJ0_checkIndex_df160 d 0 0 [.int x0, .int x1] N I L P (p_R none N I L P) := by
  refine MT.of rfl (Nat.le_of_ble_eq_true rfl) ?_
  show SW G mJ0_checkIndex_df160 (p_rm d 0 0) 0 0 0 0 (p_R none N I L P) 0 [(0, .int x0), (1, .int x1)] [] N I L P
  refine s_iload_n (pc := 0) dJ0_checkIndex_df160_0 0 rfl rfl ?_
  refine s_iload_n (pc := 1) dJ0_checkIndex_df160_1 1 rfl rfl ?_
  have kv : ∀ v2 : Value, (v2 = .null ∨ v2 = .ref 1000060) → SW G mJ0_checkIndex_df160 (p_rm d 0 0) 0 0 0 0 (p_R none N I L P) 5 [(0, .int x0), (1, .int x1)] [v2, .int x1, .int x0] N I L P := by
    intro v2 hv2
    refine y_callS1 (pc := 5) dJ0_checkIndex_df160_5 (c_J3_checkIndex_8e157 hv2 h0 h1) mk_J3_checkIndex_8e157 mz_J3_checkIndex_8e157 ml_J0_1059 rfl rfl (Nat.le_of_ble_eq_true rfl) hd (Nat.le_of_ble_eq_true rfl) ?_
    refine s_pop (pc := 8) dJ0_checkIndex_df160_8 rfl ?_
    exact s_return (pc := 9) dJ0_checkIndex_df160_9 rfl ⟨rfl, rfl, rfl, rfl, rfl⟩
  exact t_form (pc := 2) dJ0_checkIndex_df160_2 rfl (kv .null (Or.inl rfl)) (kv (.ref 1000060) (Or.inr rfl))
theorem p_chr0 : ∀ j, j < 16 → ∀ i, i < 7 → ((((p_byt.getD j []).getD i 0) &&& (255 : Int32)).toUInt32 % 65536).toInt32 = (p_byt.getD j []).getD i 0 := by decide +kernel
theorem p_chr1 : ∀ j, j < 16 → ∀ i, i < 7 → ((p_byt.getD j []).getD i 0).toUInt32 % 65536 = ((p_byt.getD j []).getD i 0).toUInt32 := by decide +kernel
theorem p_len7 : ∀ j, j < 16 → p_len.getD j 0 < 7 := by decide +kernel
theorem p_chr2 : ∀ j, j < 16 → ∀ i, i < 7 → narrow .char (.int ((p_byt.getD j []).getD i 0)) = .int ((p_byt.getD j []).getD i 0) := by decide +kernel
theorem p_lenlt : ∀ j, j < 16 → (nI (p_len.getD j 0)).toInt = (p_len.getD j 0 : Int) := by decide +kernel
theorem c_J1_charAt_3b067 {G : pG} {d : Nat} {N : pN} {I : pI} {L : pL} {P : pR} {j : Nat} {x1 : Int32} (hd : 2 ≤ d) (hj : j < 16) (h0 : ¬ x1 < 0) (h1 : x1.toNatClampNeg < p_len.getD j 0) : MT G mJ1_charAt_3b067 d 0 0 [.ref (1000200 + j), .int x1] N I L P (p_R (some (.int ((p_byt.getD j []).getD x1.toNatClampNeg 0))) N I L P) := by
  have h2 : x1 < nI (p_len.getD j 0) := by
    rw [Int32.lt_iff_toInt_lt, p_lenlt j hj, p_nn h0]
    omega
  have h7 : x1.toNatClampNeg < 7 := Nat.lt_trans h1 (p_len7 j hj)
  have hin : vp_in x1 (p_len.getD j 0) := by
    intro h
    rcases h with h | h
    · exact h0 h
    · omega
  refine MT.of rfl (Nat.le_of_ble_eq_true rfl) ?_
  show SW G mJ1_charAt_3b067 (p_rm d 0 0) 0 0 0 0 (p_R (some (.int ((p_byt.getD j []).getD x1.toNatClampNeg 0))) N I L P) 0 [(0, .ref (1000200 + j)), (1, .int x1)] [] N I L P
  refine s_iload_n (pc := 0) dJ1_charAt_3b067_0 1 rfl rfl ?_
  refine s_aload_n (pc := 1) dJ1_charAt_3b067_1 0 rfl rfl ?_
  refine t_vlen (pc := 2) dJ1_charAt_3b067_2 hj ?_
  refine y_callS0 (pc := 3) dJ1_charAt_3b067_3 (c_J0_checkIndex_df160 (by omega) h0 h2) mk_J0_checkIndex_df160 mz_J0_checkIndex_df160 ml_J1_9 rfl rfl (Nat.le_of_ble_eq_true rfl) (by omega) (Nat.le_of_ble_eq_true rfl) ?_
  refine s_aload_n (pc := 6) dJ1_charAt_3b067_6 0 rfl rfl ?_
  refine s_iload_n (pc := 7) dJ1_charAt_3b067_7 1 rfl rfl ?_
  refine t_vald (pc := 8) dJ1_charAt_3b067_8 hj hin ?_
  refine s_sipush (pc := 9) dJ1_charAt_3b067_9 (v := 255) rfl ?_
  refine s_iand (pc := 12) dJ1_charAt_3b067_12 ?_
  refine t_i2cc (pc := 13) dJ1_charAt_3b067_13 (p_chr0 j hj _ h7) ?_
  exact s_ireturn (pc := 14) dJ1_charAt_3b067_14 rfl (p_chr2 j hj _ h7) ⟨rfl, rfl, rfl, rfl, rfl⟩
theorem c_J0_charAt_5068e {G : pG} {d : Nat} {N : pN} {I : pI} {L : pL} {P : pR} {a0 : Nat} {x1 : Int32} {qq : Int32} (hd : 6 ≤ d) (hW : WT N P) (ha0 : p_sx a0) (hf : f_J0_charAt_5068e a0 x1 = some qq) : MT G mJ0_charAt_5068e d 0 0 [.ref a0, .int x1] N I L P (p_R (some (.int qq)) N I L P) := by
  obtain ⟨j, hj, rfl⟩ := p_sxj ha0
  unfold f_J0_charAt_5068e at hf
  rw [Nat.add_sub_cancel_left] at hf
  obtain ⟨hb, hf⟩ := p_ckx hf
  simp only [Bool.and_eq_true, Bool.not_eq_true', decide_eq_false_iff_not, decide_eq_true_eq] at hb
  obtain ⟨h0, h1⟩ := hb
  cases hf
  have h7 : x1.toNatClampNeg < 7 := Nat.lt_trans h1 (p_len7 j hj)
  refine MT.of rfl (Nat.le_of_ble_eq_true rfl) ?_
  show SW G mJ0_charAt_5068e (p_rm d 0 0) 0 0 0 0 (p_R (some (.int ((p_byt.getD j []).getD x1.toNatClampNeg 0))) N I L P) 0 [(0, .ref (1000100 + j)), (1, .int x1)] [] N I L P
  refine s_aload_n (pc := 0) dJ0_charAt_5068e_0 0 rfl rfl ?_
  refine y_callT1 (pc := 1) dJ0_charAt_5068e_1 (c_J0_isLatin1_aae02 ha0) mk_J0_isLatin1_aae02 mv_J0_isLatin1_aae02 ml_J0_492 rfl rfl (Nat.le_of_ble_eq_true rfl) ha0 rfl (p_d1 hd (by decide)) (Nat.le_of_ble_eq_true rfl) ?_
  refine s_if_eq (pc := 4) (tgt := 16) dJ0_charAt_5068e_4 rfl (fun hc => absurd hc (by decide)) (fun _ => ?_)
  refine s_aload_n (pc := 7) dJ0_charAt_5068e_7 0 rfl rfl ?_
  refine t_value (pc := 8) dJ0_charAt_5068e_8 rfl hj ?_
  refine s_iload_n (pc := 11) dJ0_charAt_5068e_11 1 rfl rfl ?_
  refine y_callS1 (pc := 12) dJ0_charAt_5068e_12 (c_J1_charAt_3b067 (by omega) hj h0 h1) mk_J1_charAt_3b067 mz_J1_charAt_3b067 ml_J0_495 rfl rfl (Nat.le_of_ble_eq_true rfl) (p_d1 hd (by decide)) (Nat.le_of_ble_eq_true rfl) ?_
  exact s_ireturn (pc := 15) dJ0_charAt_5068e_15 rfl (p_chr2 j hj _ h7) ⟨rfl, rfl, rfl, rfl, rfl⟩
