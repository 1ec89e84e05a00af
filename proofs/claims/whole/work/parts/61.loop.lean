theorem lw_next {G : pG} {nm : String} {k cs sl : Nat} {N : pN} {I : pI} {L : pL} {P : pR} (kn : SW G (mL nm) room_1 600000 7302250 cs sl lw_Qr 18 [(3, .int (nI (7 * (k + 1)))), (2, .ref 67), (1, .ref 0), (0, .ref 1000050)] [] N I L P) : SW G (mL nm) room_1 600000 7302250 cs sl lw_Qr 1366 [(3, .int (nI (7 * k))), (2, .ref 67), (1, .ref 0), (0, .ref 1000050)] [] N I L P := by
  have e : nI (7 * k) + 7 = nI (7 * (k + 1)) := (Int32.ofNat_add (7 * k) 7).symm
  refine s_iinc (pc := 1366) (lo' := [(3, .int (nI (7 * (k + 1)))), (2, .ref 67), (1, .ref 0), (0, .ref 1000050)]) dL_law_1366 0 rfl (v := nI (7 * (k + 1))) e (Nat.le_of_ble_eq_true rfl) rfl ?_
  exact s_goto (pc := 1369) (tgt := 18) dL_law_1369 rfl kn
theorem lw_cond {k L : Nat} (hL : L ≤ 3584) (hk : k ≤ 512) : nI L - 7 < nI (7 * k) ↔ L < 7 * k + 7 := by
  have e1 : (nI L).toInt = (L : Int) := Int32.toInt_ofNat_of_lt (by omega)
  have e2 : (nI (7 * k)).toInt = ((7 * k : Nat) : Int) := Int32.toInt_ofNat_of_lt (by omega)
  have e3 : (nI L - 7).toInt = (L : Int) - 7 := by
    rw [Int32.toInt_sub, e1]
    show ((L : Int) - 7).bmod (2 ^ 32) = _
    rw [Int.bmod_def]
    omega
  rw [Int32.lt_iff_toInt_lt, e2, e3]
  omega
theorem lw_loop {G : pG} {nm : String} {n : Nat} {Iv : Nat → pN → pI → pL → pR → Prop} (hL : g_n G ≤ 3584) (hv : ∀ k N I L P, Iv k N I L P → WT N P ∧ p_tp N 0 14 ∧ p_tp N 67 15) (hm : ∀ k N I L P, Iv k N I L P → Iv (k + 1) N I L P) (h_feed : ∀ k, k < 512 → Sp_feed n (Iv k) (Iv (k + 1))) (h_end : ∀ k, k < 512 → Sp_end n (Iv k) (Iv (k + 1))) (h_town : ∀ k, k < 512 → Sp_town n (Iv k) (Iv (k + 1))) (h_law : ∀ k, k < 512 → Sp_law n (Iv k) (Iv (k + 1))) (h_fault : ∀ k, k < 512 → Sp_fault n (Iv k) (Iv (k + 1))) (h_day : ∀ k, k < 512 → Sp_day n (Iv k) (Iv (k + 1))) (h_view : ∀ k, k < 512 → Sp_view n (Iv k) (Iv (k + 1))) (h_pull : ∀ k, k < 512 → Sp_pull n (Iv k) (Iv (k + 1))) (h_stuff : ∀ k, k < 512 → Sp_stuff n (Iv k) (Iv (k + 1))) (h_set : ∀ k, k < 512 → Sp_set n (Iv k) (Iv (k + 1))) (h_wall : ∀ k, k < 512 → Sp_wall n (Iv k) (Iv (k + 1))) (h_sender : ∀ k, k < 512 → Sp_sender n (Iv k) (Iv (k + 1))) (h_sees : ∀ k, k < 512 → Sp_sees n (Iv k) (Iv (k + 1))) (h_ways : ∀ k, k < 512 → Sp_ways n (Iv k) (Iv (k + 1))) (h_way : ∀ k, k < 512 → Sp_way n (Iv k) (Iv (k + 1))) (h_compare : ∀ k, k < 512 → Sp_compare n (Iv k) (Iv (k + 1))) (h_signal : ∀ k, k < 512 → Sp_signal n (Iv k) (Iv (k + 1))) (h_heard : ∀ k, k < 512 → Sp_heard n (Iv k) (Iv (k + 1))) (h_best : ∀ k, k < 512 → Sp_best n (Iv k) (Iv (k + 1))) (h_step : ∀ k, k < 512 → Sp_step n (Iv k) (Iv (k + 1))) (h_unwalk : ∀ k, k < 512 → Sp_unwalk n (Iv k) (Iv (k + 1))) (h_served : ∀ k, k < 512 → Sp_served n (Iv k) (Iv (k + 1))) (h_walk : ∀ k, k < 512 → Sp_walk n (Iv k) (Iv (k + 1))) (h_cover : ∀ k, k < 512 → Sp_cover n (Iv k) (Iv (k + 1))) (h_serves : ∀ k, k < 512 → Sp_serves n (Iv k) (Iv (k + 1))) (h_clash : ∀ k, k < 512 → Sp_clash n (Iv k) (Iv (k + 1))) (h_colour : ∀ k, k < 512 → Sp_colour n (Iv k) (Iv (k + 1))) (h_span : ∀ k, k < 512 → Sp_span n (Iv k) (Iv (k + 1))) (h_places : ∀ k, k < 512 → Sp_places n (Iv k) (Iv (k + 1))) (h_place : ∀ k, k < 512 → Sp_place n (Iv k) (Iv (k + 1))) (h_echo : ∀ k, k < 512 → Sp_echo n (Iv k) (Iv (k + 1))) (h_why : ∀ k, k < 512 → Sp_why n (Iv k) (Iv (k + 1))) (h_breach : ∀ k, k < 512 → Sp_breach n (Iv k) (Iv (k + 1))) (h_count : ∀ k, k < 512 → Sp_count n (Iv k) (Iv (k + 1))) (h_image : ∀ k, k < 512 → Sp_image n (Iv k) (Iv (k + 1))) (h_again : ∀ k, k < 512 → Sp_again n (Iv k) (Iv (k + 1))) :
    ∀ (r k : Nat), k + r = 512 → ∀ N I L P, Iv k N I L P → SW G (mL nm) room_1 600000 7302250 (lw_c k) (lw_s k) lw_Qr 18 [(3, .int (nI (7 * k))), (2, .ref 67), (1, .ref 0), (0, .ref 1000050)] [] N I L P := by
  intro r
  induction r with
  | zero =>
    intro k hk N I L P hi
    have hk5 : k = 512 := by omega
    refine s_iload_n (pc := 18) dL_law_18 0 rfl rfl ?_
    refine s_aload_n (pc := 19) dL_law_19 3 rfl rfl ?_
    refine s_xlen (pc := 20) dL_law_20 rfl ?_
    refine s_bipush (pc := 21) dL_law_21 (v := 7) rfl ?_
    refine s_isub (pc := 23) dL_law_23 ?_
    refine s_icmp_gt (pc := 24) (tgt := 1372) dL_law_24 rfl (fun _ => ?_) (fun hc => absurd ((lw_cond hL (by omega)).mpr (by omega)) hc)
    refine s_iconst (pc := 1372) dL_law_1372 (v := 1) rfl ?_
    refine s_widen (c2 := 600000) (s2 := 7302250) ?_ ?_ ?_
    · unfold lw_c; omega
    · unfold lw_s; omega
    exact s_ireturn (pc := 1373) dL_law_1373 rfl rfl rfl
  | succ r ih =>
    intro k hk N I L P hi
    have hk2 : k < 512 := by omega
    have kn : ∀ N I L P, Iv (k + 1) N I L P → SW G (mL nm) room_1 600000 7302250 (lw_c (k + 1)) (lw_s (k + 1)) lw_Qr 1366 [(3, .int (nI (7 * k))), (2, .ref 67), (1, .ref 0), (0, .ref 1000050)] [] N I L P := fun N I L P h => lw_next (ih (k + 1) (by omega) N I L P h)
    refine s_iload_n (pc := 18) dL_law_18 0 rfl rfl ?_
    refine s_aload_n (pc := 19) dL_law_19 3 rfl rfl ?_
    refine s_xlen (pc := 20) dL_law_20 rfl ?_
    refine s_bipush (pc := 21) dL_law_21 (v := 7) rfl ?_
    refine s_isub (pc := 23) dL_law_23 ?_
    refine s_icmp_gt (pc := 24) (tgt := 1372) dL_law_24 rfl (fun _ => ?_) (fun hc => ?_)
    · refine s_iconst (pc := 1372) dL_law_1372 (v := 1) rfl ?_
      refine s_widen (c2 := 600000) (s2 := 7302250) ?_ ?_ ?_
      · unfold lw_c; omega
      · unfold lw_s; omega
      exact s_ireturn (pc := 1373) dL_law_1373 rfl rfl rfl
    · have hk : 7 * k + 7 ≤ g_n G := Nat.not_lt.mp (fun h => hc ((lw_cond hL (by omega)).mpr h))
      refine s_aload_n (pc := 27) dL_law_27 3 rfl rfl ?_
      refine s_iload_n (pc := 28) dL_law_28 0 rfl rfl ?_
      refine s_xld (pc := 29) dL_law_29 (lw_in0 hk2 hk) ?_
      refine s_bipush (pc := 30) dL_law_30 (v := 63) rfl ?_
      refine s_iand (pc := 32) dL_law_32 ?_
      refine s_topi (fun y _ => ?_)
      by_cases hc0 : y = 0
      · refine s_tableIn (pc := 33) (tgt := 192) (off := 159) dL_law_33 (by rw [hc0]; decide) (by rw [hc0]; decide) (by rw [hc0]; rfl) rfl ?_
        exact lc_feed hk2 hk (hv k N I L P hi) hi (h_feed k hk2) kn
      by_cases hc1 : y = 1
      · refine s_tableIn (pc := 33) (tgt := 255) (off := 222) dL_law_33 (by rw [hc1]; decide) (by rw [hc1]; decide) (by rw [hc1]; rfl) rfl ?_
        exact lc_end hk2 hk (hv k N I L P hi) hi (h_end k hk2) kn
      by_cases hc2 : y = 2
      · refine s_tableIn (pc := 33) (tgt := 278) (off := 245) dL_law_33 (by rw [hc2]; decide) (by rw [hc2]; decide) (by rw [hc2]; rfl) rfl ?_
        exact lc_town hk2 hk (hv k N I L P hi) hi (h_town k hk2) kn
      by_cases hc3 : y = 3
      · refine s_tableIn (pc := 33) (tgt := 291) (off := 258) dL_law_33 (by rw [hc3]; decide) (by rw [hc3]; decide) (by rw [hc3]; rfl) rfl ?_
        exact lc_law hk2 hk (hv k N I L P hi) hi (h_law k hk2) kn
      by_cases hc4 : y = 4
      · refine s_tableIn (pc := 33) (tgt := 304) (off := 271) dL_law_33 (by rw [hc4]; decide) (by rw [hc4]; decide) (by rw [hc4]; rfl) rfl ?_
        exact lc_fault hk2 hk (hv k N I L P hi) hi (h_fault k hk2) kn
      by_cases hc5 : y = 5
      · refine s_tableIn (pc := 33) (tgt := 327) (off := 294) dL_law_33 (by rw [hc5]; decide) (by rw [hc5]; decide) (by rw [hc5]; rfl) rfl ?_
        exact lc_day hk2 hk (hv k N I L P hi) hi (h_day k hk2) kn
      by_cases hc6 : y = 6
      · refine s_tableIn (pc := 33) (tgt := 350) (off := 317) dL_law_33 (by rw [hc6]; decide) (by rw [hc6]; decide) (by rw [hc6]; rfl) rfl ?_
        exact lc_view hk2 hk (hv k N I L P hi) hi (h_view k hk2) kn
      by_cases hc7 : y = 7
      · refine s_tableIn (pc := 33) (tgt := 373) (off := 340) dL_law_33 (by rw [hc7]; decide) (by rw [hc7]; decide) (by rw [hc7]; rfl) rfl ?_
        exact lc_pull hk2 hk (hv k N I L P hi) hi (h_pull k hk2) kn
      by_cases hc8 : y = 8
      · refine s_tableIn (pc := 33) (tgt := 422) (off := 389) dL_law_33 (by rw [hc8]; decide) (by rw [hc8]; decide) (by rw [hc8]; rfl) rfl ?_
        exact lc_stuff hk2 hk (hv k N I L P hi) hi (h_stuff k hk2) kn
      by_cases hc9 : y = 9
      · refine s_tableIn (pc := 33) (tgt := 465) (off := 432) dL_law_33 (by rw [hc9]; decide) (by rw [hc9]; decide) (by rw [hc9]; rfl) rfl ?_
        exact lc_set hk2 hk (hv k N I L P hi) hi (h_set k hk2) kn
      by_cases hc10 : y = 10
      · refine s_tableIn (pc := 33) (tgt := 498) (off := 465) dL_law_33 (by rw [hc10]; decide) (by rw [hc10]; decide) (by rw [hc10]; rfl) rfl ?_
        exact lc_wall hk2 hk (hv k N I L P hi) hi (h_wall k hk2) kn
      by_cases hc11 : y = 11
      · refine s_tableIn (pc := 33) (tgt := 531) (off := 498) dL_law_33 (by rw [hc11]; decide) (by rw [hc11]; decide) (by rw [hc11]; rfl) rfl ?_
        exact lc_sender hk2 hk (hv k N I L P hi) hi (h_sender k hk2) kn
      by_cases hc12 : y = 12
      · refine s_tableIn (pc := 33) (tgt := 564) (off := 531) dL_law_33 (by rw [hc12]; decide) (by rw [hc12]; decide) (by rw [hc12]; rfl) rfl ?_
        exact lc_sees hk2 hk (hv k N I L P hi) hi (h_sees k hk2) kn
      by_cases hc13 : y = 13
      · refine s_tableIn (pc := 33) (tgt := 607) (off := 574) dL_law_33 (by rw [hc13]; decide) (by rw [hc13]; decide) (by rw [hc13]; rfl) rfl ?_
        exact lc_ways hk2 hk (hv k N I L P hi) hi (h_ways k hk2) kn
      by_cases hc14 : y = 14
      · refine s_tableIn (pc := 33) (tgt := 650) (off := 617) dL_law_33 (by rw [hc14]; decide) (by rw [hc14]; decide) (by rw [hc14]; rfl) rfl ?_
        exact lc_way hk2 hk (hv k N I L P hi) hi (h_way k hk2) kn
      by_cases hc15 : y = 15
      · refine s_tableIn (pc := 33) (tgt := 713) (off := 680) dL_law_33 (by rw [hc15]; decide) (by rw [hc15]; decide) (by rw [hc15]; rfl) rfl ?_
        exact lc_compare hk2 hk (hv k N I L P hi) hi (h_compare k hk2) kn
      by_cases hc16 : y = 16
      · refine s_tableIn (pc := 33) (tgt := 788) (off := 755) dL_law_33 (by rw [hc16]; decide) (by rw [hc16]; decide) (by rw [hc16]; rfl) rfl ?_
        exact lc_signal hk2 hk (hv k N I L P hi) hi (h_signal k hk2) kn
      by_cases hc17 : y = 17
      · refine s_tableIn (pc := 33) (tgt := 831) (off := 798) dL_law_33 (by rw [hc17]; decide) (by rw [hc17]; decide) (by rw [hc17]; rfl) rfl ?_
        exact lc_heard hk2 hk (hv k N I L P hi) hi (h_heard k hk2) kn
      by_cases hc18 : y = 18
      · refine s_tableIn (pc := 33) (tgt := 864) (off := 831) dL_law_33 (by rw [hc18]; decide) (by rw [hc18]; decide) (by rw [hc18]; rfl) rfl ?_
        exact lc_best hk2 hk (hv k N I L P hi) hi (h_best k hk2) kn
      by_cases hc19 : y = 19
      · refine s_tableIn (pc := 33) (tgt := 897) (off := 864) dL_law_33 (by rw [hc19]; decide) (by rw [hc19]; decide) (by rw [hc19]; rfl) rfl ?_
        exact lc_step hk2 hk (hv k N I L P hi) hi (h_step k hk2) kn
      by_cases hc20 : y = 20
      · refine s_tableIn (pc := 33) (tgt := 930) (off := 897) dL_law_33 (by rw [hc20]; decide) (by rw [hc20]; decide) (by rw [hc20]; rfl) rfl ?_
        exact lc_unwalk hk2 hk (hv k N I L P hi) hi (h_unwalk k hk2) kn
      by_cases hc21 : y = 21
      · refine s_tableIn (pc := 33) (tgt := 941) (off := 908) dL_law_33 (by rw [hc21]; decide) (by rw [hc21]; decide) (by rw [hc21]; rfl) rfl ?_
        exact lc_served hk2 hk (hv k N I L P hi) hi (h_served k hk2) kn
      by_cases hc22 : y = 22
      · refine s_tableIn (pc := 33) (tgt := 964) (off := 931) dL_law_33 (by rw [hc22]; decide) (by rw [hc22]; decide) (by rw [hc22]; rfl) rfl ?_
        exact lc_walk hk2 hk (hv k N I L P hi) hi (h_walk k hk2) kn
      by_cases hc23 : y = 23
      · refine s_tableIn (pc := 33) (tgt := 987) (off := 954) dL_law_33 (by rw [hc23]; decide) (by rw [hc23]; decide) (by rw [hc23]; rfl) rfl ?_
        exact lc_cover hk2 hk (hv k N I L P hi) hi (h_cover k hk2) kn
      by_cases hc24 : y = 24
      · refine s_tableIn (pc := 33) (tgt := 1010) (off := 977) dL_law_33 (by rw [hc24]; decide) (by rw [hc24]; decide) (by rw [hc24]; rfl) rfl ?_
        exact lc_serves hk2 hk (hv k N I L P hi) hi (h_serves k hk2) kn
      by_cases hc25 : y = 25
      · refine s_tableIn (pc := 33) (tgt := 1043) (off := 1010) dL_law_33 (by rw [hc25]; decide) (by rw [hc25]; decide) (by rw [hc25]; rfl) rfl ?_
        exact lc_clash hk2 hk (hv k N I L P hi) hi (h_clash k hk2) kn
      by_cases hc26 : y = 26
      · refine s_tableIn (pc := 33) (tgt := 1076) (off := 1043) dL_law_33 (by rw [hc26]; decide) (by rw [hc26]; decide) (by rw [hc26]; rfl) rfl ?_
        exact lc_colour hk2 hk (hv k N I L P hi) hi (h_colour k hk2) kn
      by_cases hc27 : y = 27
      · refine s_tableIn (pc := 33) (tgt := 1099) (off := 1066) dL_law_33 (by rw [hc27]; decide) (by rw [hc27]; decide) (by rw [hc27]; rfl) rfl ?_
        exact lc_span hk2 hk (hv k N I L P hi) hi (h_span k hk2) kn
      by_cases hc28 : y = 28
      · refine s_tableIn (pc := 33) (tgt := 1142) (off := 1109) dL_law_33 (by rw [hc28]; decide) (by rw [hc28]; decide) (by rw [hc28]; rfl) rfl ?_
        exact lc_places hk2 hk (hv k N I L P hi) hi (h_places k hk2) kn
      by_cases hc29 : y = 29
      · refine s_tableIn (pc := 33) (tgt := 1155) (off := 1122) dL_law_33 (by rw [hc29]; decide) (by rw [hc29]; decide) (by rw [hc29]; rfl) rfl ?_
        exact lc_place hk2 hk (hv k N I L P hi) hi (h_place k hk2) kn
      by_cases hc30 : y = 30
      · refine s_tableIn (pc := 33) (tgt := 1178) (off := 1145) dL_law_33 (by rw [hc30]; decide) (by rw [hc30]; decide) (by rw [hc30]; rfl) rfl ?_
        exact lc_echo hk2 hk (hv k N I L P hi) hi (h_echo k hk2) kn
      by_cases hc31 : y = 31
      · refine s_tableIn (pc := 33) (tgt := 1241) (off := 1208) dL_law_33 (by rw [hc31]; decide) (by rw [hc31]; decide) (by rw [hc31]; rfl) rfl ?_
        exact lc_why hk2 hk (hv k N I L P hi) hi (h_why k hk2) kn
      by_cases hc32 : y = 32
      · refine s_tableIn (pc := 33) (tgt := 1274) (off := 1241) dL_law_33 (by rw [hc32]; decide) (by rw [hc32]; decide) (by rw [hc32]; rfl) rfl ?_
        exact lc_breach hk2 hk (hv k N I L P hi) hi (h_breach k hk2) kn
      by_cases hc33 : y = 33
      · refine s_tableIn (pc := 33) (tgt := 1297) (off := 1264) dL_law_33 (by rw [hc33]; decide) (by rw [hc33]; decide) (by rw [hc33]; rfl) rfl ?_
        exact lc_count hk2 hk (hv k N I L P hi) hi (h_count k hk2) kn
      by_cases hc34 : y = 34
      · refine s_tableIn (pc := 33) (tgt := 1320) (off := 1287) dL_law_33 (by rw [hc34]; decide) (by rw [hc34]; decide) (by rw [hc34]; rfl) rfl ?_
        exact lc_image hk2 hk (hv k N I L P hi) hi (h_image k hk2) kn
      by_cases hc35 : y = 35
      · refine s_tableIn (pc := 33) (tgt := 1343) (off := 1310) dL_law_33 (by rw [hc35]; decide) (by rw [hc35]; decide) (by rw [hc35]; rfl) rfl ?_
        exact lc_again hk2 hk (hv k N I L P hi) hi (h_again k hk2) kn
      have hout : y.toInt < 0 ∨ 35 < y.toInt := p_out (fun i h1 h2 => by
        have hh : i = 0 ∨ i = 1 ∨ i = 2 ∨ i = 3 ∨ i = 4 ∨ i = 5 ∨ i = 6 ∨ i = 7 ∨ i = 8 ∨ i = 9 ∨ i = 10 ∨ i = 11 ∨ i = 12 ∨ i = 13 ∨ i = 14 ∨ i = 15 ∨ i = 16 ∨ i = 17 ∨ i = 18 ∨ i = 19 ∨ i = 20 ∨ i = 21 ∨ i = 22 ∨ i = 23 ∨ i = 24 ∨ i = 25 ∨ i = 26 ∨ i = 27 ∨ i = 28 ∨ i = 29 ∨ i = 30 ∨ i = 31 ∨ i = 32 ∨ i = 33 ∨ i = 34 ∨ i = 35 := by omega
        rcases hh with rfl | rfl | rfl | rfl | rfl | rfl | rfl | rfl | rfl | rfl | rfl | rfl | rfl | rfl | rfl | rfl | rfl | rfl | rfl | rfl | rfl | rfl | rfl | rfl | rfl | rfl | rfl | rfl | rfl | rfl | rfl | rfl | rfl | rfl | rfl | rfl
        · exact p_ne hc0 rfl
        · exact p_ne hc1 rfl
        · exact p_ne hc2 rfl
        · exact p_ne hc3 rfl
        · exact p_ne hc4 rfl
        · exact p_ne hc5 rfl
        · exact p_ne hc6 rfl
        · exact p_ne hc7 rfl
        · exact p_ne hc8 rfl
        · exact p_ne hc9 rfl
        · exact p_ne hc10 rfl
        · exact p_ne hc11 rfl
        · exact p_ne hc12 rfl
        · exact p_ne hc13 rfl
        · exact p_ne hc14 rfl
        · exact p_ne hc15 rfl
        · exact p_ne hc16 rfl
        · exact p_ne hc17 rfl
        · exact p_ne hc18 rfl
        · exact p_ne hc19 rfl
        · exact p_ne hc20 rfl
        · exact p_ne hc21 rfl
        · exact p_ne hc22 rfl
        · exact p_ne hc23 rfl
        · exact p_ne hc24 rfl
        · exact p_ne hc25 rfl
        · exact p_ne hc26 rfl
        · exact p_ne hc27 rfl
        · exact p_ne hc28 rfl
        · exact p_ne hc29 rfl
        · exact p_ne hc30 rfl
        · exact p_ne hc31 rfl
        · exact p_ne hc32 rfl
        · exact p_ne hc33 rfl
        · exact p_ne hc34 rfl
        · exact p_ne hc35 rfl)
      refine s_tableOut (pc := 33) (tgt := 1366) dL_law_33 hout rfl ?_
      refine s_widen lw_cu.1 lw_cu.2 ?_
      exact kn _ _ _ _ (hm k N I L P hi)
