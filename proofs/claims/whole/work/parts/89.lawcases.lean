/-! THE LAW'S CASES: both systems answer alike, both go on to the same state -/
theorem AM_fr2 {v v' : zH} {s : zSg} (h : ∀ b : Int, 77 ≤ b → b < 114 → v' b = v b) (k : AM v s) : AM v' s := by
  have e := h 77 (by omega) (by omega)
  exact ⟨⟨MQc_fr (fun b q => h b (by omega) (by omega)) (fun j _ => by rw [e]) k.1.1, by rw [e]; exact k.1.2.1, k.1.2.2⟩, TM_fr (by rw [e]) (h 78 (by omega) (by omega)) k.2.1, MPa_fr (by rw [e]) (h 102 (by omega) (by omega)) k.2.2.1, MIm_fr (by rw [e]) (by rw [e]) (h 113 (by omega) (by omega)) k.2.2.2.1, MTo_fr (by rw [e]) (h 107 (by omega) (by omega)) (h 108 (by omega) (by omega)) (h 109 (by omega) (by omega)) k.2.2.2.2⟩
section
variable {Ee : yE} {l : Launch} {G : zG} {v : zH} {i B : Int} {s : zSg}
theorem lc_0 (hi : 0 ≤ i ∧ i + 6 ≤ zgL G) (hL : zgL G ≤ 3072) (hA : AC v s) (hM : AM v s) (hG : GOk s B) (hB : 0 ≤ B ∧ B ≤ 36864) (K : ∀ (v' : zH) (s' : zSg), AC v' s' → AM v' s' → GOk s' (B + 72) → yJp Ee l G 1 (59 + 1) h_Lw_law 115 QF QXF 1459 [(2, -20), (2, 0), (2, 77), (2, 114), (0, i), (3, 0), (3, 0)] [] v' 115) : yJp Ee l G 1 (59 + 1) h_Lw_law 115 QF QXF 200 [(2, -20), (2, 0), (2, 77), (2, 114), (0, i), (3, 0), (3, 0)] [] v 115 := by
  refine ygo (code := k_L0) yk_L0 300 0 _ _ _ _ (yce_ck yk_L0 rfl) rfl (sg_L0 ?_)
  refine ⟨⟨by omega, by omega⟩, rfl, ⟨by omega, by omega⟩, ⟨by omega, by omega⟩, rfl, ⟨by omega, by omega⟩, ⟨by omega, by omega⟩, rfl, ⟨by omega, by omega⟩, ⟨by omega, by omega⟩, rfl, ⟨by omega, by omega⟩, ⟨by omega, by omega⟩, rfl, ⟨by omega, by omega⟩, (by decide), ?_⟩
  refine c_W_feed hA hG (fun v1 f1 hA1 => ?_)
  have hM1 := AM_fr f1 hM
  refine ⟨⟨by omega, by omega⟩, rfl, ⟨by omega, by omega⟩, ⟨by omega, by omega⟩, rfl, ⟨by omega, by omega⟩, ⟨by omega, by omega⟩, rfl, ⟨by omega, by omega⟩, ⟨by omega, by omega⟩, rfl, ⟨by omega, by omega⟩, ⟨by omega, by omega⟩, rfl, ⟨by omega, by omega⟩, (by decide), ?_⟩
  refine c_M_feed hM1 hG (fun v2 f2 hM2 => ?_)
  exact ⟨fun _ => K _ _ (AC_fr (fun b q => f2 b (Or.inl q)) hA1) hM2 (GOk_le (by omega) (GOk_feed hG)), fun q => absurd rfl q⟩
theorem lc_1 (hi : 0 ≤ i ∧ i + 6 ≤ zgL G) (hL : zgL G ≤ 3072) (hA : AC v s) (hM : AM v s) (hG : GOk s B) (hB : 0 ≤ B ∧ B ≤ 36864) (K : ∀ (v' : zH) (s' : zSg), AC v' s' → AM v' s' → GOk s' (B + 72) → yJp Ee l G 1 (59 + 1) h_Lw_law 115 QF QXF 1459 [(2, -20), (2, 0), (2, 77), (2, 114), (0, i), (3, 0), (3, 0)] [] v' 115) : yJp Ee l G 1 (59 + 1) h_Lw_law 115 QF QXF 273 [(2, -20), (2, 0), (2, 77), (2, 114), (0, i), (3, 0), (3, 0)] [] v 115 := by
  refine ygo (code := k_L1) yk_L1 300 0 _ _ _ _ (yce_ck yk_L1 rfl) rfl (sg_L1 ?_)
  refine ⟨⟨by omega, by omega⟩, rfl, ⟨by omega, by omega⟩, (by decide), ?_⟩
  refine c_W_end hA (fun v1 f1 hA1 => ?_)
  have hM1 := AM_fr f1 hM
  refine ⟨⟨by omega, by omega⟩, rfl, ⟨by omega, by omega⟩, (by decide), ?_⟩
  refine c_M_end hM1 (fun v2 f2 hM2 => ?_)
  exact ⟨fun _ => K _ _ (AC_fr (fun b q => f2 b (Or.inl q)) hA1) hM2 (GOk_le (by omega) (GOk_end hG)), fun q => absurd rfl q⟩
theorem lc_2 (hi : 0 ≤ i ∧ i + 6 ≤ zgL G) (hL : zgL G ≤ 3072) (hA : AC v s) (hM : AM v s) (hG : GOk s B) (hB : 0 ≤ B ∧ B ≤ 36864) (K : ∀ (v' : zH) (s' : zSg), AC v' s' → AM v' s' → GOk s' (B + 72) → yJp Ee l G 1 (59 + 1) h_Lw_law 115 QF QXF 1459 [(2, -20), (2, 0), (2, 77), (2, 114), (0, i), (3, 0), (3, 0)] [] v' 115) : yJp Ee l G 1 (59 + 1) h_Lw_law 115 QF QXF 298 [(2, -20), (2, 0), (2, 77), (2, 114), (0, i), (3, 0), (3, 0)] [] v 115 := by
  refine ygo (code := k_L2) yk_L2 300 0 _ _ _ _ (yce_ck yk_L2 rfl) rfl (sg_L2 ?_)
  refine ⟨⟨by omega, by omega⟩, rfl, ⟨by omega, by omega⟩, (by decide), ?_⟩
  refine c_W_fault hG hA (fun v1 f1 hA1 => ?_)
  have hM1 := AM_fr f1 hM
  refine ⟨⟨by omega, by omega⟩, rfl, ⟨by omega, by omega⟩, (by decide), ?_⟩
  refine c_M_fault hG hM1 (fun v2 f2 hM2 => ?_)
  exact ⟨fun _ => K _ _ (AC_fr (fun b q => f2 b (Or.inl q)) hA1) hM2 (GOk_le (by omega) hG), fun q => absurd rfl q⟩
theorem lc_3 (hi : 0 ≤ i ∧ i + 6 ≤ zgL G) (hL : zgL G ≤ 3072) (hA : AC v s) (hM : AM v s) (hG : GOk s B) (hB : 0 ≤ B ∧ B ≤ 36864) (K : ∀ (v' : zH) (s' : zSg), AC v' s' → AM v' s' → GOk s' (B + 72) → yJp Ee l G 1 (59 + 1) h_Lw_law 115 QF QXF 1459 [(2, -20), (2, 0), (2, 77), (2, 114), (0, i), (3, 0), (3, 0)] [] v' 115) : yJp Ee l G 1 (59 + 1) h_Lw_law 115 QF QXF 323 [(2, -20), (2, 0), (2, 77), (2, 114), (0, i), (3, 0), (3, 0)] [] v 115 := by
  refine ygo (code := k_L3) yk_L3 300 0 _ _ _ _ (yce_ck yk_L3 rfl) rfl (sg_L3 ?_)
  refine ⟨⟨by omega, by omega⟩, rfl, ⟨by omega, by omega⟩, (by decide), ?_⟩
  refine c_W_text hG hA (fun v1 f1 hA1 => ?_)
  have hM1 := AM_fr f1 hM
  refine ⟨⟨by omega, by omega⟩, rfl, ⟨by omega, by omega⟩, (by decide), ?_⟩
  refine c_M_text hG hM1 (fun v2 f2 hM2 => ?_)
  exact ⟨fun _ => K _ _ (AC_fr (fun b q => f2 b (Or.inl q)) hA1) hM2 (GOk_le (by omega) (GOk_text hB.1 hG)), fun q => absurd rfl q⟩
theorem lc_5 (hi : 0 ≤ i ∧ i + 6 ≤ zgL G) (hL : zgL G ≤ 3072) (hA : AC v s) (hM : AM v s) (hG : GOk s B) (hB : 0 ≤ B ∧ B ≤ 36864) (K : ∀ (v' : zH) (s' : zSg), AC v' s' → AM v' s' → GOk s' (B + 72) → yJp Ee l G 1 (59 + 1) h_Lw_law 115 QF QXF 1459 [(2, -20), (2, 0), (2, 77), (2, 114), (0, i), (3, 0), (3, 0)] [] v' 115) : yJp Ee l G 1 (59 + 1) h_Lw_law 115 QF QXF 416 [(2, -20), (2, 0), (2, 77), (2, 114), (0, i), (3, 0), (3, 0)] [] v 115 := by
  refine ygo (code := k_L5) yk_L5 300 0 _ _ _ _ (yce_ck yk_L5 rfl) rfl (sg_L5 ?_)
  refine ⟨⟨by omega, by omega⟩, rfl, ⟨by omega, by omega⟩, ⟨by omega, by omega⟩, rfl, ⟨by omega, by omega⟩, (by decide), ?_⟩
  refine ask hA (fun w q1 q2 q3 => c_W_stone q1 (q3 _ Fq_rf q1)) (fun v1 f1 hA1 => ?_)
  have hM1 := AM_fr f1 hM
  refine ⟨⟨by omega, by omega⟩, rfl, ⟨by omega, by omega⟩, ⟨by omega, by omega⟩, rfl, ⟨by omega, by omega⟩, (by decide), ?_⟩
  refine askM hM1 (fun q1 q2 q3 => c_M_stone q1 (q3 _ Fz_rf q1)) (fun v2 f2 hM2 => ?_)
  exact ⟨fun _ => K _ _ (AC_fr (fun b q => f2 b (Or.inl q)) hA1) hM2 (GOk_le (by omega) hG), fun q => absurd rfl q⟩
theorem lc_6 (hi : 0 ≤ i ∧ i + 6 ≤ zgL G) (hL : zgL G ≤ 3072) (hA : AC v s) (hM : AM v s) (hG : GOk s B) (hB : 0 ≤ B ∧ B ≤ 36864) (K : ∀ (v' : zH) (s' : zSg), AC v' s' → AM v' s' → GOk s' (B + 72) → yJp Ee l G 1 (59 + 1) h_Lw_law 115 QF QXF 1459 [(2, -20), (2, 0), (2, 77), (2, 114), (0, i), (3, 0), (3, 0)] [] v' 115) : yJp Ee l G 1 (59 + 1) h_Lw_law 115 QF QXF 453 [(2, -20), (2, 0), (2, 77), (2, 114), (0, i), (3, 0), (3, 0)] [] v 115 := by
  refine ygo (code := k_L6) yk_L6 300 0 _ _ _ _ (yce_ck yk_L6 rfl) rfl (sg_L6 ?_)
  refine ⟨⟨by omega, by omega⟩, rfl, ⟨by omega, by omega⟩, ⟨by omega, by omega⟩, rfl, ⟨by omega, by omega⟩, (by decide), ?_⟩
  refine ask hA (fun w q1 q2 q3 => c_W_oven q1 (q3 _ Fq_rf q1)) (fun v1 f1 hA1 => ?_)
  have hM1 := AM_fr f1 hM
  refine ⟨⟨by omega, by omega⟩, rfl, ⟨by omega, by omega⟩, ⟨by omega, by omega⟩, rfl, ⟨by omega, by omega⟩, (by decide), ?_⟩
  refine askM hM1 (fun q1 q2 q3 => c_M_oven q1 (q3 _ Fz_rf q1)) (fun v2 f2 hM2 => ?_)
  exact ⟨fun _ => K _ _ (AC_fr (fun b q => f2 b (Or.inl q)) hA1) hM2 (GOk_le (by omega) hG), fun q => absurd rfl q⟩
theorem lc_7 (hi : 0 ≤ i ∧ i + 6 ≤ zgL G) (hL : zgL G ≤ 3072) (hA : AC v s) (hM : AM v s) (hG : GOk s B) (hB : 0 ≤ B ∧ B ≤ 36864) (K : ∀ (v' : zH) (s' : zSg), AC v' s' → AM v' s' → GOk s' (B + 72) → yJp Ee l G 1 (59 + 1) h_Lw_law 115 QF QXF 1459 [(2, -20), (2, 0), (2, 77), (2, 114), (0, i), (3, 0), (3, 0)] [] v' 115) : yJp Ee l G 1 (59 + 1) h_Lw_law 115 QF QXF 490 [(2, -20), (2, 0), (2, 77), (2, 114), (0, i), (3, 0), (3, 0)] [] v 115 := by
  refine ygo (code := k_L7) yk_L7 300 0 _ _ _ _ (yce_ck yk_L7 rfl) rfl (sg_L7 ?_)
  refine ⟨⟨by omega, by omega⟩, rfl, ⟨by omega, by omega⟩, ⟨by omega, by omega⟩, rfl, ⟨by omega, by omega⟩, (by decide), ?_⟩
  refine ask hA (fun w q1 q2 q3 => c_W_sleeper q1 (q3 _ Fq_rf q1)) (fun v1 f1 hA1 => ?_)
  have hM1 := AM_fr f1 hM
  refine ⟨⟨by omega, by omega⟩, rfl, ⟨by omega, by omega⟩, ⟨by omega, by omega⟩, rfl, ⟨by omega, by omega⟩, (by decide), ?_⟩
  refine askM hM1 (fun q1 q2 q3 => c_M_sleeper q1 (q3 _ Fz_rf q1)) (fun v2 f2 hM2 => ?_)
  exact ⟨fun _ => K _ _ (AC_fr (fun b q => f2 b (Or.inl q)) hA1) hM2 (GOk_le (by omega) hG), fun q => absurd rfl q⟩
theorem lc_8 (hi : 0 ≤ i ∧ i + 6 ≤ zgL G) (hL : zgL G ≤ 3072) (hA : AC v s) (hM : AM v s) (hG : GOk s B) (hB : 0 ≤ B ∧ B ≤ 36864) (K : ∀ (v' : zH) (s' : zSg), AC v' s' → AM v' s' → GOk s' (B + 72) → yJp Ee l G 1 (59 + 1) h_Lw_law 115 QF QXF 1459 [(2, -20), (2, 0), (2, 77), (2, 114), (0, i), (3, 0), (3, 0)] [] v' 115) : yJp Ee l G 1 (59 + 1) h_Lw_law 115 QF QXF 527 [(2, -20), (2, 0), (2, 77), (2, 114), (0, i), (3, 0), (3, 0)] [] v 115 := by
  refine ygo (code := k_L8) yk_L8 300 0 _ _ _ _ (yce_ck yk_L8 rfl) rfl (sg_L8 ?_)
  refine ⟨⟨by omega, by omega⟩, rfl, ⟨by omega, by omega⟩, (by decide), ?_⟩
  refine c_W_law hA (fun v1 f1 hA1 => ?_)
  have hM1 := AM_fr f1 hM
  refine ⟨⟨by omega, by omega⟩, rfl, ⟨by omega, by omega⟩, (by decide), ?_⟩
  refine c_M_law hM1 (fun v2 f2 hM2 => ?_)
  exact ⟨fun _ => K _ _ (AC_fr (fun b q => f2 b (Or.inl q)) hA1) hM2 (GOk_le (by omega) (GOk_law hG)), fun q => absurd rfl q⟩
theorem lc_9 (hi : 0 ≤ i ∧ i + 6 ≤ zgL G) (hL : zgL G ≤ 3072) (hA : AC v s) (hM : AM v s) (hG : GOk s B) (hB : 0 ≤ B ∧ B ≤ 36864) (K : ∀ (v' : zH) (s' : zSg), AC v' s' → AM v' s' → GOk s' (B + 72) → yJp Ee l G 1 (59 + 1) h_Lw_law 115 QF QXF 1459 [(2, -20), (2, 0), (2, 77), (2, 114), (0, i), (3, 0), (3, 0)] [] v' 115) : yJp Ee l G 1 (59 + 1) h_Lw_law 115 QF QXF 552 [(2, -20), (2, 0), (2, 77), (2, 114), (0, i), (3, 0), (3, 0)] [] v 115 := by
  refine ygo (code := k_L9) yk_L9 300 0 _ _ _ _ (yce_ck yk_L9 rfl) rfl (sg_L9 ?_)
  refine ⟨⟨by omega, by omega⟩, rfl, ⟨by omega, by omega⟩, ⟨by omega, by omega⟩, rfl, ⟨by omega, by omega⟩, fun c0 => ⟨by decide, ?_⟩, fun c0 => ⟨by decide, ?_⟩⟩
  · refine c_W_rain hA (fun v1 f1 hA1 => ?_)
    have hM1 := AM_fr f1 hM
    refine ⟨⟨by omega, by omega⟩, rfl, ⟨by omega, by omega⟩, ⟨by omega, by omega⟩, rfl, ⟨by omega, by omega⟩, fun _ => ⟨by decide, ?_⟩, fun c1 => absurd c0 c1⟩
    refine c_M_rain hM1 (fun v2 f2 hM2 => ?_)
    exact ⟨fun _ => K _ _ (AC_fr (fun b q => f2 b (Or.inl q)) hA1) hM2 (GOk_le (by omega) (GOk_rain hG)), fun q => absurd rfl q⟩
  · refine c_W_rain hA (fun v1 f1 hA1 => ?_)
    have hM1 := AM_fr f1 hM
    refine ⟨⟨by omega, by omega⟩, rfl, ⟨by omega, by omega⟩, ⟨by omega, by omega⟩, rfl, ⟨by omega, by omega⟩, fun c1 => absurd c1 c0, fun _ => ⟨by decide, ?_⟩⟩
    refine c_M_rain hM1 (fun v2 f2 hM2 => ?_)
    exact ⟨fun _ => K _ _ (AC_fr (fun b q => f2 b (Or.inl q)) hA1) hM2 (GOk_le (by omega) (GOk_rain hG)), fun q => absurd rfl q⟩
theorem lc_10 (hi : 0 ≤ i ∧ i + 6 ≤ zgL G) (hL : zgL G ≤ 3072) (hA : AC v s) (hM : AM v s) (hG : GOk s B) (hB : 0 ≤ B ∧ B ≤ 36864) (K : ∀ (v' : zH) (s' : zSg), AC v' s' → AM v' s' → GOk s' (B + 72) → yJp Ee l G 1 (59 + 1) h_Lw_law 115 QF QXF 1459 [(2, -20), (2, 0), (2, 77), (2, 114), (0, i), (3, 0), (3, 0)] [] v' 115) : yJp Ee l G 1 (59 + 1) h_Lw_law 115 QF QXF 605 [(2, -20), (2, 0), (2, 77), (2, 114), (0, i), (3, 0), (3, 0)] [] v 115 := by
  refine ygo (code := k_L10) yk_L10 300 0 _ _ _ _ (yce_ck yk_L10 rfl) rfl (sg_L10 ?_)
  refine ⟨⟨by omega, by omega⟩, rfl, ⟨by omega, by omega⟩, ⟨by omega, by omega⟩, rfl, ⟨by omega, by omega⟩, (by decide), ?_⟩
  refine c_W_warm hA (fun v1 f1 hA1 => ?_)
  have hM1 := AM_fr f1 hM
  refine ⟨⟨by omega, by omega⟩, rfl, ⟨by omega, by omega⟩, ⟨by omega, by omega⟩, rfl, ⟨by omega, by omega⟩, (by decide), ?_⟩
  refine c_M_warm hM1 (fun v2 f2 hM2 => ?_)
  exact ⟨fun _ => K _ _ (AC_fr (fun b q => f2 b (Or.inl q)) hA1) hM2 (GOk_le (by omega) (GOk_warm hG)), fun q => absurd rfl q⟩
theorem lc_11 (hi : 0 ≤ i ∧ i + 6 ≤ zgL G) (hL : zgL G ≤ 3072) (hA : AC v s) (hM : AM v s) (hG : GOk s B) (hB : 0 ≤ B ∧ B ≤ 36864) (K : ∀ (v' : zH) (s' : zSg), AC v' s' → AM v' s' → GOk s' (B + 72) → yJp Ee l G 1 (59 + 1) h_Lw_law 115 QF QXF 1459 [(2, -20), (2, 0), (2, 77), (2, 114), (0, i), (3, 0), (3, 0)] [] v' 115) : yJp Ee l G 1 (59 + 1) h_Lw_law 115 QF QXF 642 [(2, -20), (2, 0), (2, 77), (2, 114), (0, i), (3, 0), (3, 0)] [] v 115 := by
  refine ygo (code := k_L11) yk_L11 300 0 _ _ _ _ (yce_ck yk_L11 rfl) rfl (sg_L11 ?_)
  refine ⟨⟨by omega, by omega⟩, rfl, ⟨by omega, by omega⟩, ⟨by omega, by omega⟩, rfl, ⟨by omega, by omega⟩, ⟨by omega, by omega⟩, rfl, ⟨by omega, by omega⟩, (by decide), ?_⟩
  refine c_W_bake hA (fun v1 f1 hA1 => ?_)
  have hM1 := AM_fr f1 hM
  refine ⟨⟨by omega, by omega⟩, rfl, ⟨by omega, by omega⟩, ⟨by omega, by omega⟩, rfl, ⟨by omega, by omega⟩, ⟨by omega, by omega⟩, rfl, ⟨by omega, by omega⟩, (by decide), ?_⟩
  refine c_M_bake hM1 (fun v2 f2 hM2 => ?_)
  exact ⟨fun _ => K _ _ (AC_fr (fun b q => f2 b (Or.inl q)) hA1) hM2 (GOk_le (by omega) (GOk_bake hG)), fun q => absurd rfl q⟩
theorem lc_12 (hi : 0 ≤ i ∧ i + 6 ≤ zgL G) (hL : zgL G ≤ 3072) (hA : AC v s) (hM : AM v s) (hG : GOk s B) (hB : 0 ≤ B ∧ B ≤ 36864) (K : ∀ (v' : zH) (s' : zSg), AC v' s' → AM v' s' → GOk s' (B + 72) → yJp Ee l G 1 (59 + 1) h_Lw_law 115 QF QXF 1459 [(2, -20), (2, 0), (2, 77), (2, 114), (0, i), (3, 0), (3, 0)] [] v' 115) : yJp Ee l G 1 (59 + 1) h_Lw_law 115 QF QXF 691 [(2, -20), (2, 0), (2, 77), (2, 114), (0, i), (3, 0), (3, 0)] [] v 115 := by
  have hH : cH (gC s) ≤ 800000 := by have := hG.2.2.1; omega
  refine ygo (code := k_L12) yk_L12 300 0 _ _ _ _ (yce_ck yk_L12 rfl) rfl (sg_L12 ?_)
  refine ⟨⟨by omega, by omega⟩, rfl, ⟨by omega, by omega⟩, (by decide), ?_⟩
  refine c_W_hours hH hA (fun v1 f1 hA1 => ?_)
  have hM1 := AM_fr f1 hM
  refine ⟨⟨by omega, by omega⟩, rfl, ⟨by omega, by omega⟩, (by decide), ?_⟩
  refine c_M_hours hH hM1 (fun v2 f2 hM2 => ?_)
  exact ⟨fun _ => K _ _ (AC_fr (fun b q => f2 b (Or.inl q)) hA1) hM2 (GOk_hours (by omega) hG), fun q => absurd rfl q⟩
theorem lc_13 (hi : 0 ≤ i ∧ i + 6 ≤ zgL G) (hL : zgL G ≤ 3072) (hA : AC v s) (hM : AM v s) (hG : GOk s B) (hB : 0 ≤ B ∧ B ≤ 36864) (K : ∀ (v' : zH) (s' : zSg), AC v' s' → AM v' s' → GOk s' (B + 72) → yJp Ee l G 1 (59 + 1) h_Lw_law 115 QF QXF 1459 [(2, -20), (2, 0), (2, 77), (2, 114), (0, i), (3, 0), (3, 0)] [] v' 115) : yJp Ee l G 1 (59 + 1) h_Lw_law 115 QF QXF 716 [(2, -20), (2, 0), (2, 77), (2, 114), (0, i), (3, 0), (3, 0)] [] v 115 := by
  refine ygo (code := k_L13) yk_L13 300 0 _ _ _ _ (yce_ck yk_L13 rfl) rfl (sg_L13 ?_)
  refine ⟨(by decide), ?_⟩
  refine c_W_undo hG hA (fun v1 f1 hA1 => ?_)
  have hM1 := AM_fr f1 hM
  refine ⟨(by decide), ?_⟩
  refine c_M_undo hG hM1 (fun v2 f2 hM2 => ?_)
  exact ⟨fun _ => K _ _ (AC_fr (fun b q => f2 b (Or.inl q)) hA1) hM2 (GOk_le (by omega) (GOk_undo hG)), fun q => absurd rfl q⟩
theorem lc_14 (hi : 0 ≤ i ∧ i + 6 ≤ zgL G) (hL : zgL G ≤ 3072) (hA : AC v s) (hM : AM v s) (hG : GOk s B) (hB : 0 ≤ B ∧ B ≤ 36864) (K : ∀ (v' : zH) (s' : zSg), AC v' s' → AM v' s' → GOk s' (B + 72) → yJp Ee l G 1 (59 + 1) h_Lw_law 115 QF QXF 1459 [(2, -20), (2, 0), (2, 77), (2, 114), (0, i), (3, 0), (3, 0)] [] v' 115) : yJp Ee l G 1 (59 + 1) h_Lw_law 115 QF QXF 729 [(2, -20), (2, 0), (2, 77), (2, 114), (0, i), (3, 0), (3, 0)] [] v 115 := by
  refine ygo (code := k_L14) yk_L14 300 0 _ _ _ _ (yce_ck yk_L14 rfl) rfl (sg_L14 ?_)
  refine ⟨⟨by omega, by omega⟩, rfl, ⟨by omega, by omega⟩, ⟨by omega, by omega⟩, rfl, ⟨by omega, by omega⟩, ⟨by omega, by omega⟩, rfl, ⟨by omega, by omega⟩, (by decide), ?_⟩
  refine ask hA (fun w q1 q2 q3 => c_W_ahead q1 q3) (fun v1 f1 hA1 => ?_)
  have hM1 := AM_fr f1 hM
  refine ⟨⟨by omega, by omega⟩, rfl, ⟨by omega, by omega⟩, ⟨by omega, by omega⟩, rfl, ⟨by omega, by omega⟩, ⟨by omega, by omega⟩, rfl, ⟨by omega, by omega⟩, (by decide), ?_⟩
  refine askM hM1 (fun q1 q2 q3 => c_M_ahead q1 q3) (fun v2 f2 hM2 => ?_)
  exact ⟨fun _ => K _ _ (AC_fr (fun b q => f2 b (Or.inl q)) hA1) hM2 (GOk_le (by omega) hG), fun q => absurd rfl q⟩
theorem lc_15 (hi : 0 ≤ i ∧ i + 6 ≤ zgL G) (hL : zgL G ≤ 3072) (hA : AC v s) (hM : AM v s) (hG : GOk s B) (hB : 0 ≤ B ∧ B ≤ 36864) (K : ∀ (v' : zH) (s' : zSg), AC v' s' → AM v' s' → GOk s' (B + 72) → yJp Ee l G 1 (59 + 1) h_Lw_law 115 QF QXF 1459 [(2, -20), (2, 0), (2, 77), (2, 114), (0, i), (3, 0), (3, 0)] [] v' 115) : yJp Ee l G 1 (59 + 1) h_Lw_law 115 QF QXF 778 [(2, -20), (2, 0), (2, 77), (2, 114), (0, i), (3, 0), (3, 0)] [] v 115 := by
  refine ygo (code := k_L15) yk_L15 300 0 _ _ _ _ (yce_ck yk_L15 rfl) rfl (sg_L15 ?_)
  refine ⟨⟨by omega, by omega⟩, rfl, ⟨by omega, by omega⟩, (by decide), ?_⟩
  refine ask hA (fun w q1 q2 q3 => c_W_air q1 q3) (fun v1 f1 hA1 => ?_)
  have hM1 := AM_fr f1 hM
  refine ⟨⟨by omega, by omega⟩, rfl, ⟨by omega, by omega⟩, (by decide), ?_⟩
  refine askM hM1 (fun q1 q2 q3 => c_M_air q1 q3) (fun v2 f2 hM2 => ?_)
  exact ⟨fun _ => K _ _ (AC_fr (fun b q => f2 b (Or.inl q)) hA1) hM2 (GOk_le (by omega) hG), fun q => absurd rfl q⟩
theorem lc_16 (hi : 0 ≤ i ∧ i + 6 ≤ zgL G) (hL : zgL G ≤ 3072) (hA : AC v s) (hM : AM v s) (hG : GOk s B) (hB : 0 ≤ B ∧ B ≤ 36864) (K : ∀ (v' : zH) (s' : zSg), AC v' s' → AM v' s' → GOk s' (B + 72) → yJp Ee l G 1 (59 + 1) h_Lw_law 115 QF QXF 1459 [(2, -20), (2, 0), (2, 77), (2, 114), (0, i), (3, 0), (3, 0)] [] v' 115) : yJp Ee l G 1 (59 + 1) h_Lw_law 115 QF QXF 803 [(2, -20), (2, 0), (2, 77), (2, 114), (0, i), (3, 0), (3, 0)] [] v 115 := by
  refine ygo (code := k_L16) yk_L16 300 0 _ _ _ _ (yce_ck yk_L16 rfl) rfl (sg_L16 ?_)
  refine ⟨⟨by omega, by omega⟩, rfl, ⟨by omega, by omega⟩, ⟨by omega, by omega⟩, rfl, ⟨by omega, by omega⟩, (by decide), ?_⟩
  refine ask hA (fun w q1 q2 q3 => c_W_comfort q1 q3) (fun v1 f1 hA1 => ?_)
  have hM1 := AM_fr f1 hM
  refine ⟨⟨by omega, by omega⟩, rfl, ⟨by omega, by omega⟩, ⟨by omega, by omega⟩, rfl, ⟨by omega, by omega⟩, (by decide), ?_⟩
  refine askM hM1 (fun q1 q2 q3 => c_M_comfort q1 q3) (fun v2 f2 hM2 => ?_)
  exact ⟨fun _ => K _ _ (AC_fr (fun b q => f2 b (Or.inl q)) hA1) hM2 (GOk_le (by omega) hG), fun q => absurd rfl q⟩
theorem lc_17 (hi : 0 ≤ i ∧ i + 6 ≤ zgL G) (hL : zgL G ≤ 3072) (hA : AC v s) (hM : AM v s) (hG : GOk s B) (hB : 0 ≤ B ∧ B ≤ 36864) (K : ∀ (v' : zH) (s' : zSg), AC v' s' → AM v' s' → GOk s' (B + 72) → yJp Ee l G 1 (59 + 1) h_Lw_law 115 QF QXF 1459 [(2, -20), (2, 0), (2, 77), (2, 114), (0, i), (3, 0), (3, 0)] [] v' 115) : yJp Ee l G 1 (59 + 1) h_Lw_law 115 QF QXF 840 [(2, -20), (2, 0), (2, 77), (2, 114), (0, i), (3, 0), (3, 0)] [] v 115 := by
  refine ygo (code := k_L17) yk_L17 300 0 _ _ _ _ (yce_ck yk_L17 rfl) rfl (sg_L17 ?_)
  refine ⟨⟨by omega, by omega⟩, rfl, ⟨by omega, by omega⟩, (by decide), ?_⟩
  refine ask hA (fun w q1 q2 q3 => c_W_choice q1 q3) (fun v1 f1 hA1 => ?_)
  have hM1 := AM_fr f1 hM
  refine ⟨⟨by omega, by omega⟩, rfl, ⟨by omega, by omega⟩, (by decide), ?_⟩
  refine askM hM1 (fun q1 q2 q3 => c_M_choice q1 q3) (fun v2 f2 hM2 => ?_)
  exact ⟨fun _ => K _ _ (AC_fr (fun b q => f2 b (Or.inl q)) hA1) hM2 (GOk_le (by omega) hG), fun q => absurd rfl q⟩
theorem lc_18 (hi : 0 ≤ i ∧ i + 6 ≤ zgL G) (hL : zgL G ≤ 3072) (hA : AC v s) (hM : AM v s) (hG : GOk s B) (hB : 0 ≤ B ∧ B ≤ 36864) (K : ∀ (v' : zH) (s' : zSg), AC v' s' → AM v' s' → GOk s' (B + 72) → yJp Ee l G 1 (59 + 1) h_Lw_law 115 QF QXF 1459 [(2, -20), (2, 0), (2, 77), (2, 114), (0, i), (3, 0), (3, 0)] [] v' 115) : yJp Ee l G 1 (59 + 1) h_Lw_law 115 QF QXF 865 [(2, -20), (2, 0), (2, 77), (2, 114), (0, i), (3, 0), (3, 0)] [] v 115 := by
  refine ygo (code := k_L18) yk_L18 300 0 _ _ _ _ (yce_ck yk_L18 rfl) rfl (sg_L18 ?_)
  refine ⟨⟨by omega, by omega⟩, rfl, ⟨by omega, by omega⟩, (by decide), ?_⟩
  refine ask hA (fun w q1 q2 q3 => c_W_most q1 q3) (fun v1 f1 hA1 => ?_)
  have hM1 := AM_fr f1 hM
  refine ⟨⟨by omega, by omega⟩, rfl, ⟨by omega, by omega⟩, (by decide), ?_⟩
  refine askM hM1 (fun q1 q2 q3 => c_M_most q1 q3) (fun v2 f2 hM2 => ?_)
  exact ⟨fun _ => K _ _ (AC_fr (fun b q => f2 b (Or.inl q)) hA1) hM2 (GOk_le (by omega) hG), fun q => absurd rfl q⟩
theorem lc_19 (hi : 0 ≤ i ∧ i + 6 ≤ zgL G) (hL : zgL G ≤ 3072) (hA : AC v s) (hM : AM v s) (hG : GOk s B) (hB : 0 ≤ B ∧ B ≤ 36864) (K : ∀ (v' : zH) (s' : zSg), AC v' s' → AM v' s' → GOk s' (B + 72) → yJp Ee l G 1 (59 + 1) h_Lw_law 115 QF QXF 1459 [(2, -20), (2, 0), (2, 77), (2, 114), (0, i), (3, 0), (3, 0)] [] v' 115) : yJp Ee l G 1 (59 + 1) h_Lw_law 115 QF QXF 890 [(2, -20), (2, 0), (2, 77), (2, 114), (0, i), (3, 0), (3, 0)] [] v 115 := by
  refine ygo (code := k_L19) yk_L19 300 0 _ _ _ _ (yce_ck yk_L19 rfl) rfl (sg_L19 ?_)
  refine ⟨⟨by omega, by omega⟩, rfl, ⟨by omega, by omega⟩, ⟨by omega, by omega⟩, rfl, ⟨by omega, by omega⟩, ⟨by omega, by omega⟩, rfl, ⟨by omega, by omega⟩, (by decide), ?_⟩
  refine ask hA (fun w q1 q2 q3 => c_W_changed q1 q3) (fun v1 f1 hA1 => ?_)
  have hM1 := AM_fr f1 hM
  refine ⟨⟨by omega, by omega⟩, rfl, ⟨by omega, by omega⟩, ⟨by omega, by omega⟩, rfl, ⟨by omega, by omega⟩, ⟨by omega, by omega⟩, rfl, ⟨by omega, by omega⟩, (by decide), ?_⟩
  refine askM hM1 (fun q1 q2 q3 => c_M_changed q1 q3) (fun v2 f2 hM2 => ?_)
  exact ⟨fun _ => K _ _ (AC_fr (fun b q => f2 b (Or.inl q)) hA1) hM2 (GOk_le (by omega) hG), fun q => absurd rfl q⟩
theorem lc_20 (hi : 0 ≤ i ∧ i + 6 ≤ zgL G) (hL : zgL G ≤ 3072) (hA : AC v s) (hM : AM v s) (hG : GOk s B) (hB : 0 ≤ B ∧ B ≤ 36864) (K : ∀ (v' : zH) (s' : zSg), AC v' s' → AM v' s' → GOk s' (B + 72) → yJp Ee l G 1 (59 + 1) h_Lw_law 115 QF QXF 1459 [(2, -20), (2, 0), (2, 77), (2, 114), (0, i), (3, 0), (3, 0)] [] v' 115) : yJp Ee l G 1 (59 + 1) h_Lw_law 115 QF QXF 939 [(2, -20), (2, 0), (2, 77), (2, 114), (0, i), (3, 0), (3, 0)] [] v 115 := by
  refine ygo (code := k_L20) yk_L20 300 0 _ _ _ _ (yce_ck yk_L20 rfl) rfl (sg_L20 ?_)
  refine ⟨⟨by omega, by omega⟩, rfl, ⟨by omega, by omega⟩, (by decide), ?_⟩
  refine ask hA (fun w q1 q2 q3 => c_W_laid q1 q3) (fun v1 f1 hA1 => ?_)
  have hM1 := AM_fr f1 hM
  refine ⟨⟨by omega, by omega⟩, rfl, ⟨by omega, by omega⟩, (by decide), ?_⟩
  refine askM hM1 (fun q1 q2 q3 => c_M_laid q1 q3) (fun v2 f2 hM2 => ?_)
  exact ⟨fun _ => K _ _ (AC_fr (fun b q => f2 b (Or.inl q)) hA1) hM2 (GOk_le (by omega) hG), fun q => absurd rfl q⟩
theorem lc_21 (hi : 0 ≤ i ∧ i + 6 ≤ zgL G) (hL : zgL G ≤ 3072) (hA : AC v s) (hM : AM v s) (hG : GOk s B) (hB : 0 ≤ B ∧ B ≤ 36864) (K : ∀ (v' : zH) (s' : zSg), AC v' s' → AM v' s' → GOk s' (B + 72) → yJp Ee l G 1 (59 + 1) h_Lw_law 115 QF QXF 1459 [(2, -20), (2, 0), (2, 77), (2, 114), (0, i), (3, 0), (3, 0)] [] v' 115) : yJp Ee l G 1 (59 + 1) h_Lw_law 115 QF QXF 964 [(2, -20), (2, 0), (2, 77), (2, 114), (0, i), (3, 0), (3, 0)] [] v 115 := by
  refine ygo (code := k_L21) yk_L21 300 0 _ _ _ _ (yce_ck yk_L21 rfl) rfl (sg_L21 ?_)
  refine ⟨⟨by omega, by omega⟩, rfl, ⟨by omega, by omega⟩, ⟨by omega, by omega⟩, rfl, ⟨by omega, by omega⟩, ⟨by omega, by omega⟩, rfl, ⟨by omega, by omega⟩, (by decide), ?_⟩
  refine c_W_touched hG hA (fun v1 f1 hA1 => ?_)
  have hM1 := AM_fr f1 hM
  refine ⟨⟨by omega, by omega⟩, rfl, ⟨by omega, by omega⟩, ⟨by omega, by omega⟩, rfl, ⟨by omega, by omega⟩, ⟨by omega, by omega⟩, rfl, ⟨by omega, by omega⟩, (by decide), ?_⟩
  refine c_M_touched hG hM1 (fun v2 f2 hM2 => ?_)
  exact ⟨fun _ => K _ _ (AC_fr (fun b q => f2 b (Or.inl q)) hA1) hM2 (GOk_le (by omega) (GOk_touched hG)), fun q => absurd rfl q⟩
theorem lc_22 (hi : 0 ≤ i ∧ i + 6 ≤ zgL G) (hL : zgL G ≤ 3072) (hA : AC v s) (hM : AM v s) (hG : GOk s B) (hB : 0 ≤ B ∧ B ≤ 36864) (K : ∀ (v' : zH) (s' : zSg), AC v' s' → AM v' s' → GOk s' (B + 72) → yJp Ee l G 1 (59 + 1) h_Lw_law 115 QF QXF 1459 [(2, -20), (2, 0), (2, 77), (2, 114), (0, i), (3, 0), (3, 0)] [] v' 115) : yJp Ee l G 1 (59 + 1) h_Lw_law 115 QF QXF 1013 [(2, -20), (2, 0), (2, 77), (2, 114), (0, i), (3, 0), (3, 0)] [] v 115 := by
  refine ygo (code := k_L22) yk_L22 300 0 _ _ _ _ (yce_ck yk_L22 rfl) rfl (sg_L22 ?_)
  refine ⟨⟨by omega, by omega⟩, rfl, ⟨by omega, by omega⟩, (by decide), ?_⟩
  refine ask hA (fun w q1 q2 q3 => c_W_fits q1 hG.2.2.2.2.1 q2 q3) (fun v1 f1 hA1 => ?_)
  have hM1 := AM_fr f1 hM
  refine ⟨⟨by omega, by omega⟩, rfl, ⟨by omega, by omega⟩, (by decide), ?_⟩
  refine askM hM1 (fun q1 q2 q3 => c_M_fits q1 hG.2.2.2.2.1 q2 q3) (fun v2 f2 hM2 => ?_)
  exact ⟨fun _ => K _ _ (AC_fr (fun b q => f2 b (Or.inl q)) hA1) hM2 (GOk_le (by omega) hG), fun q => absurd rfl q⟩
theorem lc_23 (hi : 0 ≤ i ∧ i + 6 ≤ zgL G) (hL : zgL G ≤ 3072) (hA : AC v s) (hM : AM v s) (hG : GOk s B) (hB : 0 ≤ B ∧ B ≤ 36864) (K : ∀ (v' : zH) (s' : zSg), AC v' s' → AM v' s' → GOk s' (B + 72) → yJp Ee l G 1 (59 + 1) h_Lw_law 115 QF QXF 1459 [(2, -20), (2, 0), (2, 77), (2, 114), (0, i), (3, 0), (3, 0)] [] v' 115) : yJp Ee l G 1 (59 + 1) h_Lw_law 115 QF QXF 1038 [(2, -20), (2, 0), (2, 77), (2, 114), (0, i), (3, 0), (3, 0)] [] v 115 := by
  refine ygo (code := k_L23) yk_L23 300 0 _ _ _ _ (yce_ck yk_L23 rfl) rfl (sg_L23 ?_)
  refine ⟨⟨by omega, by omega⟩, rfl, ⟨by omega, by omega⟩, ⟨by omega, by omega⟩, rfl, ⟨by omega, by omega⟩, ⟨by omega, by omega⟩, rfl, ⟨by omega, by omega⟩, (by decide), ?_⟩
  refine ask hA (fun w q1 q2 q3 => c_W_touch q1 hG.2.2.2.2.1 q2 q3) (fun v1 f1 hA1 => ?_)
  have hM1 := AM_fr f1 hM
  refine ⟨⟨by omega, by omega⟩, rfl, ⟨by omega, by omega⟩, ⟨by omega, by omega⟩, rfl, ⟨by omega, by omega⟩, ⟨by omega, by omega⟩, rfl, ⟨by omega, by omega⟩, (by decide), ?_⟩
  refine askM hM1 (fun q1 q2 q3 => c_M_touch q1 hG.2.2.2.2.1 q2 q3) (fun v2 f2 hM2 => ?_)
  exact ⟨fun _ => K _ _ (AC_fr (fun b q => f2 b (Or.inl q)) hA1) hM2 (GOk_le (by omega) hG), fun q => absurd rfl q⟩
theorem lc_24 (hi : 0 ≤ i ∧ i + 6 ≤ zgL G) (hL : zgL G ≤ 3072) (hA : AC v s) (hM : AM v s) (hG : GOk s B) (hB : 0 ≤ B ∧ B ≤ 36864) (K : ∀ (v' : zH) (s' : zSg), AC v' s' → AM v' s' → GOk s' (B + 72) → yJp Ee l G 1 (59 + 1) h_Lw_law 115 QF QXF 1459 [(2, -20), (2, 0), (2, 77), (2, 114), (0, i), (3, 0), (3, 0)] [] v' 115) : yJp Ee l G 1 (59 + 1) h_Lw_law 115 QF QXF 1087 [(2, -20), (2, 0), (2, 77), (2, 114), (0, i), (3, 0), (3, 0)] [] v 115 := by
  refine ygo (code := k_L24) yk_L24 300 0 _ _ _ _ (yce_ck yk_L24 rfl) rfl (sg_L24 ?_)
  refine ⟨⟨by omega, by omega⟩, rfl, ⟨by omega, by omega⟩, ⟨by omega, by omega⟩, rfl, ⟨by omega, by omega⟩, (by decide), ?_⟩
  refine ask hA (fun w q1 q2 q3 => c_W_without q1 q3) (fun v1 f1 hA1 => ?_)
  have hM1 := AM_fr f1 hM
  refine ⟨⟨by omega, by omega⟩, rfl, ⟨by omega, by omega⟩, ⟨by omega, by omega⟩, rfl, ⟨by omega, by omega⟩, (by decide), ?_⟩
  refine askM hM1 (fun q1 q2 q3 => c_M_without q1 q3) (fun v2 f2 hM2 => ?_)
  exact ⟨fun _ => K _ _ (AC_fr (fun b q => f2 b (Or.inl q)) hA1) hM2 (GOk_le (by omega) hG), fun q => absurd rfl q⟩
theorem lc_25 (hi : 0 ≤ i ∧ i + 6 ≤ zgL G) (hL : zgL G ≤ 3072) (hA : AC v s) (hM : AM v s) (hG : GOk s B) (hB : 0 ≤ B ∧ B ≤ 36864) (K : ∀ (v' : zH) (s' : zSg), AC v' s' → AM v' s' → GOk s' (B + 72) → yJp Ee l G 1 (59 + 1) h_Lw_law 115 QF QXF 1459 [(2, -20), (2, 0), (2, 77), (2, 114), (0, i), (3, 0), (3, 0)] [] v' 115) : yJp Ee l G 1 (59 + 1) h_Lw_law 115 QF QXF 1124 [(2, -20), (2, 0), (2, 77), (2, 114), (0, i), (3, 0), (3, 0)] [] v 115 := by
  refine ygo (code := k_L25) yk_L25 300 0 _ _ _ _ (yce_ck yk_L25 rfl) rfl (sg_L25 ?_)
  refine ⟨⟨by omega, by omega⟩, rfl, ⟨by omega, by omega⟩, ⟨by omega, by omega⟩, rfl, ⟨by omega, by omega⟩, (by decide), ?_⟩
  refine ask hA (fun w q1 q2 q3 => c_W_coldest q1 q3) (fun v1 f1 hA1 => ?_)
  have hM1 := AM_fr f1 hM
  refine ⟨⟨by omega, by omega⟩, rfl, ⟨by omega, by omega⟩, ⟨by omega, by omega⟩, rfl, ⟨by omega, by omega⟩, (by decide), ?_⟩
  refine askM hM1 (fun q1 q2 q3 => c_M_coldest q1 q3) (fun v2 f2 hM2 => ?_)
  exact ⟨fun _ => K _ _ (AC_fr (fun b q => f2 b (Or.inl q)) hA1) hM2 (GOk_le (by omega) hG), fun q => absurd rfl q⟩
theorem lc_26 (hi : 0 ≤ i ∧ i + 6 ≤ zgL G) (hL : zgL G ≤ 3072) (hA : AC v s) (hM : AM v s) (hG : GOk s B) (hB : 0 ≤ B ∧ B ≤ 36864) (K : ∀ (v' : zH) (s' : zSg), AC v' s' → AM v' s' → GOk s' (B + 72) → yJp Ee l G 1 (59 + 1) h_Lw_law 115 QF QXF 1459 [(2, -20), (2, 0), (2, 77), (2, 114), (0, i), (3, 0), (3, 0)] [] v' 115) : yJp Ee l G 1 (59 + 1) h_Lw_law 115 QF QXF 1161 [(2, -20), (2, 0), (2, 77), (2, 114), (0, i), (3, 0), (3, 0)] [] v 115 := by
  refine ygo (code := k_L26) yk_L26 300 0 _ _ _ _ (yce_ck yk_L26 rfl) rfl (sg_L26 ?_)
  refine ⟨⟨by omega, by omega⟩, rfl, ⟨by omega, by omega⟩, (by decide), ?_⟩
  refine ask hA (fun w q1 q2 q3 => c_W_frost q1 q3) (fun v1 f1 hA1 => ?_)
  have hM1 := AM_fr f1 hM
  refine ⟨⟨by omega, by omega⟩, rfl, ⟨by omega, by omega⟩, (by decide), ?_⟩
  refine askM hM1 (fun q1 q2 q3 => c_M_frost q1 q3) (fun v2 f2 hM2 => ?_)
  exact ⟨fun _ => K _ _ (AC_fr (fun b q => f2 b (Or.inl q)) hA1) hM2 (GOk_le (by omega) hG), fun q => absurd rfl q⟩
theorem lc_27 (hi : 0 ≤ i ∧ i + 6 ≤ zgL G) (hL : zgL G ≤ 3072) (hA : AC v s) (hM : AM v s) (hG : GOk s B) (hB : 0 ≤ B ∧ B ≤ 36864) (K : ∀ (v' : zH) (s' : zSg), AC v' s' → AM v' s' → GOk s' (B + 72) → yJp Ee l G 1 (59 + 1) h_Lw_law 115 QF QXF 1459 [(2, -20), (2, 0), (2, 77), (2, 114), (0, i), (3, 0), (3, 0)] [] v' 115) : yJp Ee l G 1 (59 + 1) h_Lw_law 115 QF QXF 1186 [(2, -20), (2, 0), (2, 77), (2, 114), (0, i), (3, 0), (3, 0)] [] v 115 := by
  refine ygo (code := k_L27) yk_L27 300 0 _ _ _ _ (yce_ck yk_L27 rfl) rfl (sg_L27 ?_)
  refine ⟨⟨by omega, by omega⟩, rfl, ⟨by omega, by omega⟩, (by decide), ?_⟩
  refine ask hA (fun w q1 q2 q3 => c_W_spread q1 q3) (fun v1 f1 hA1 => ?_)
  have hM1 := AM_fr f1 hM
  refine ⟨⟨by omega, by omega⟩, rfl, ⟨by omega, by omega⟩, (by decide), ?_⟩
  refine askM hM1 (fun q1 q2 q3 => c_M_spread q1 q3) (fun v2 f2 hM2 => ?_)
  exact ⟨fun _ => K _ _ (AC_fr (fun b q => f2 b (Or.inl q)) hA1) hM2 (GOk_le (by omega) hG), fun q => absurd rfl q⟩
theorem lc_28 (hi : 0 ≤ i ∧ i + 6 ≤ zgL G) (hL : zgL G ≤ 3072) (hA : AC v s) (hM : AM v s) (hG : GOk s B) (hB : 0 ≤ B ∧ B ≤ 36864) (K : ∀ (v' : zH) (s' : zSg), AC v' s' → AM v' s' → GOk s' (B + 72) → yJp Ee l G 1 (59 + 1) h_Lw_law 115 QF QXF 1459 [(2, -20), (2, 0), (2, 77), (2, 114), (0, i), (3, 0), (3, 0)] [] v' 115) : yJp Ee l G 1 (59 + 1) h_Lw_law 115 QF QXF 1211 [(2, -20), (2, 0), (2, 77), (2, 114), (0, i), (3, 0), (3, 0)] [] v 115 := by
  refine ygo (code := k_L28) yk_L28 300 0 _ _ _ _ (yce_ck yk_L28 rfl) rfl (sg_L28 ?_)
  refine ⟨⟨by omega, by omega⟩, rfl, ⟨by omega, by omega⟩, ⟨by omega, by omega⟩, rfl, ⟨by omega, by omega⟩, ⟨by omega, by omega⟩, rfl, ⟨by omega, by omega⟩, (by decide), ?_⟩
  refine ask hA (fun w q1 q2 q3 => c_W_timing q1 q3) (fun v1 f1 hA1 => ?_)
  have hM1 := AM_fr f1 hM
  refine ⟨⟨by omega, by omega⟩, rfl, ⟨by omega, by omega⟩, ⟨by omega, by omega⟩, rfl, ⟨by omega, by omega⟩, ⟨by omega, by omega⟩, rfl, ⟨by omega, by omega⟩, (by decide), ?_⟩
  refine askM hM1 (fun q1 q2 q3 => c_M_timing q1 q3) (fun v2 f2 hM2 => ?_)
  exact ⟨fun _ => K _ _ (AC_fr (fun b q => f2 b (Or.inl q)) hA1) hM2 (GOk_le (by omega) hG), fun q => absurd rfl q⟩
theorem lc_29 (hi : 0 ≤ i ∧ i + 6 ≤ zgL G) (hL : zgL G ≤ 3072) (hA : AC v s) (hM : AM v s) (hG : GOk s B) (hB : 0 ≤ B ∧ B ≤ 36864) (K : ∀ (v' : zH) (s' : zSg), AC v' s' → AM v' s' → GOk s' (B + 72) → yJp Ee l G 1 (59 + 1) h_Lw_law 115 QF QXF 1459 [(2, -20), (2, 0), (2, 77), (2, 114), (0, i), (3, 0), (3, 0)] [] v' 115) : yJp Ee l G 1 (59 + 1) h_Lw_law 115 QF QXF 1260 [(2, -20), (2, 0), (2, 77), (2, 114), (0, i), (3, 0), (3, 0)] [] v 115 := by
  refine ygo (code := k_L29) yk_L29 300 0 _ _ _ _ (yce_ck yk_L29 rfl) rfl (sg_L29 ?_)
  refine ⟨⟨by omega, by omega⟩, rfl, ⟨by omega, by omega⟩, ⟨by omega, by omega⟩, rfl, ⟨by omega, by omega⟩, ⟨by omega, by omega⟩, rfl, ⟨by omega, by omega⟩, (by decide), ?_⟩
  refine ask hA (fun w q1 q2 q3 => c_W_flow q1 q3) (fun v1 f1 hA1 => ?_)
  have hM1 := AM_fr f1 hM
  refine ⟨⟨by omega, by omega⟩, rfl, ⟨by omega, by omega⟩, ⟨by omega, by omega⟩, rfl, ⟨by omega, by omega⟩, ⟨by omega, by omega⟩, rfl, ⟨by omega, by omega⟩, (by decide), ?_⟩
  refine askM hM1 (fun q1 q2 q3 => c_M_flow q1 q3) (fun v2 f2 hM2 => ?_)
  exact ⟨fun _ => K _ _ (AC_fr (fun b q => f2 b (Or.inl q)) hA1) hM2 (GOk_le (by omega) hG), fun q => absurd rfl q⟩
theorem lc_30 (hi : 0 ≤ i ∧ i + 6 ≤ zgL G) (hL : zgL G ≤ 3072) (hA : AC v s) (hM : AM v s) (hG : GOk s B) (hB : 0 ≤ B ∧ B ≤ 36864) (K : ∀ (v' : zH) (s' : zSg), AC v' s' → AM v' s' → GOk s' (B + 72) → yJp Ee l G 1 (59 + 1) h_Lw_law 115 QF QXF 1459 [(2, -20), (2, 0), (2, 77), (2, 114), (0, i), (3, 0), (3, 0)] [] v' 115) : yJp Ee l G 1 (59 + 1) h_Lw_law 115 QF QXF 1309 [(2, -20), (2, 0), (2, 77), (2, 114), (0, i), (3, 0), (3, 0)] [] v 115 := by
  refine ygo (code := k_L30) yk_L30 300 0 _ _ _ _ (yce_ck yk_L30 rfl) rfl (sg_L30 ?_)
  refine ⟨⟨by omega, by omega⟩, rfl, ⟨by omega, by omega⟩, ⟨by omega, by omega⟩, rfl, ⟨by omega, by omega⟩, (by decide), ?_⟩
  refine ask hA (fun w q1 q2 q3 => c_W_giver q1 q3) (fun v1 f1 hA1 => ?_)
  have hM1 := AM_fr f1 hM
  refine ⟨⟨by omega, by omega⟩, rfl, ⟨by omega, by omega⟩, ⟨by omega, by omega⟩, rfl, ⟨by omega, by omega⟩, (by decide), ?_⟩
  refine askM hM1 (fun q1 q2 q3 => c_M_giver q1 q3) (fun v2 f2 hM2 => ?_)
  exact ⟨fun _ => K _ _ (AC_fr (fun b q => f2 b (Or.inl q)) hA1) hM2 (GOk_le (by omega) hG), fun q => absurd rfl q⟩
theorem lc_31 (hi : 0 ≤ i ∧ i + 6 ≤ zgL G) (hL : zgL G ≤ 3072) (hA : AC v s) (hM : AM v s) (hG : GOk s B) (hB : 0 ≤ B ∧ B ≤ 36864) (K : ∀ (v' : zH) (s' : zSg), AC v' s' → AM v' s' → GOk s' (B + 72) → yJp Ee l G 1 (59 + 1) h_Lw_law 115 QF QXF 1459 [(2, -20), (2, 0), (2, 77), (2, 114), (0, i), (3, 0), (3, 0)] [] v' 115) : yJp Ee l G 1 (59 + 1) h_Lw_law 115 QF QXF 1346 [(2, -20), (2, 0), (2, 77), (2, 114), (0, i), (3, 0), (3, 0)] [] v 115 := by
  refine ygo (code := k_L31) yk_L31 300 0 _ _ _ _ (yce_ck yk_L31 rfl) rfl (sg_L31 ?_)
  refine ⟨⟨by omega, by omega⟩, rfl, ⟨by omega, by omega⟩, ⟨by omega, by omega⟩, rfl, ⟨by omega, by omega⟩, (by decide), ?_⟩
  refine ask hA (fun w q1 q2 q3 => c_W_thaw q1 q3) (fun v1 f1 hA1 => ?_)
  have hM1 := AM_fr f1 hM
  refine ⟨⟨by omega, by omega⟩, rfl, ⟨by omega, by omega⟩, ⟨by omega, by omega⟩, rfl, ⟨by omega, by omega⟩, (by decide), ?_⟩
  refine askM hM1 (fun q1 q2 q3 => c_M_thaw q1 q3) (fun v2 f2 hM2 => ?_)
  exact ⟨fun _ => K _ _ (AC_fr (fun b q => f2 b (Or.inl q)) hA1) hM2 (GOk_le (by omega) hG), fun q => absurd rfl q⟩
theorem lc_32 (hi : 0 ≤ i ∧ i + 6 ≤ zgL G) (hL : zgL G ≤ 3072) (hA : AC v s) (hM : AM v s) (hG : GOk s B) (hB : 0 ≤ B ∧ B ≤ 36864) (K : ∀ (v' : zH) (s' : zSg), AC v' s' → AM v' s' → GOk s' (B + 72) → yJp Ee l G 1 (59 + 1) h_Lw_law 115 QF QXF 1459 [(2, -20), (2, 0), (2, 77), (2, 114), (0, i), (3, 0), (3, 0)] [] v' 115) : yJp Ee l G 1 (59 + 1) h_Lw_law 115 QF QXF 1383 [(2, -20), (2, 0), (2, 77), (2, 114), (0, i), (3, 0), (3, 0)] [] v 115 := by
  refine ygo (code := k_L32) yk_L32 300 0 _ _ _ _ (yce_ck yk_L32 rfl) rfl (sg_L32 ?_)
  refine ⟨⟨by omega, by omega⟩, rfl, ⟨by omega, by omega⟩, (by decide), ?_⟩
  refine ask hA (fun w q1 q2 q3 => c_W_steady q1 q3) (fun v1 f1 hA1 => ?_)
  have hM1 := AM_fr f1 hM
  refine ⟨⟨by omega, by omega⟩, rfl, ⟨by omega, by omega⟩, (by decide), ?_⟩
  refine askM hM1 (fun q1 q2 q3 => c_M_steady q1 q3) (fun v2 f2 hM2 => ?_)
  exact ⟨fun _ => K _ _ (AC_fr (fun b q => f2 b (Or.inl q)) hA1) hM2 (GOk_le (by omega) hG), fun q => absurd rfl q⟩
theorem lc_33 (hi : 0 ≤ i ∧ i + 6 ≤ zgL G) (hL : zgL G ≤ 3072) (hA : AC v s) (hM : AM v s) (hG : GOk s B) (hB : 0 ≤ B ∧ B ≤ 36864) (K : ∀ (v' : zH) (s' : zSg), AC v' s' → AM v' s' → GOk s' (B + 72) → yJp Ee l G 1 (59 + 1) h_Lw_law 115 QF QXF 1459 [(2, -20), (2, 0), (2, 77), (2, 114), (0, i), (3, 0), (3, 0)] [] v' 115) : yJp Ee l G 1 (59 + 1) h_Lw_law 115 QF QXF 1408 [(2, -20), (2, 0), (2, 77), (2, 114), (0, i), (3, 0), (3, 0)] [] v 115 := by
  refine ygo (code := k_L33) yk_L33 300 0 _ _ _ _ (yce_ck yk_L33 rfl) rfl (sg_L33 ?_)
  refine ⟨(by decide), ?_⟩
  refine c_W_image hA (fun v1 f1 hA1 => ?_)
  have hM1 := AM_fr f1 hM
  refine ⟨(by decide), ?_⟩
  refine c_M_image hM1 (fun v2 f2 hM2 => ?_)
  exact ⟨fun _ => K _ _ (AC_fr (fun b q => f2 b (Or.inl q)) hA1) hM2 (GOk_le (by omega) (GOk_image hG)), fun q => absurd rfl q⟩
theorem lc_34 (hi : 0 ≤ i ∧ i + 6 ≤ zgL G) (hL : zgL G ≤ 3072) (hA : AC v s) (hM : AM v s) (hG : GOk s B) (hB : 0 ≤ B ∧ B ≤ 36864) (K : ∀ (v' : zH) (s' : zSg), AC v' s' → AM v' s' → GOk s' (B + 72) → yJp Ee l G 1 (59 + 1) h_Lw_law 115 QF QXF 1459 [(2, -20), (2, 0), (2, 77), (2, 114), (0, i), (3, 0), (3, 0)] [] v' 115) : yJp Ee l G 1 (59 + 1) h_Lw_law 115 QF QXF 1421 [(2, -20), (2, 0), (2, 77), (2, 114), (0, i), (3, 0), (3, 0)] [] v 115 := by
  refine ygo (code := k_L34) yk_L34 300 0 _ _ _ _ (yce_ck yk_L34 rfl) rfl (sg_L34 ?_)
  refine ⟨(by decide), ?_⟩
  refine c_W_back hG (by omega) hA (fun v1 f1 hA1 => ?_)
  have hM1 := AM_fr f1 hM
  refine ⟨(by decide), ?_⟩
  refine c_M_back hG (by omega) hM1 (fun v2 f2 hM2 => ?_)
  exact ⟨fun _ => K _ _ (AC_fr (fun b q => f2 b (Or.inl q)) hA1) hM2 (GOk_le (by omega) (GOk_back (by omega) hG)), fun q => absurd rfl q⟩
theorem lc_35 (hi : 0 ≤ i ∧ i + 6 ≤ zgL G) (hL : zgL G ≤ 3072) (hA : AC v s) (hM : AM v s) (hG : GOk s B) (hB : 0 ≤ B ∧ B ≤ 36864) (K : ∀ (v' : zH) (s' : zSg), AC v' s' → AM v' s' → GOk s' (B + 72) → yJp Ee l G 1 (59 + 1) h_Lw_law 115 QF QXF 1459 [(2, -20), (2, 0), (2, 77), (2, 114), (0, i), (3, 0), (3, 0)] [] v' 115) : yJp Ee l G 1 (59 + 1) h_Lw_law 115 QF QXF 1434 [(2, -20), (2, 0), (2, 77), (2, 114), (0, i), (3, 0), (3, 0)] [] v 115 := by
  refine ygo (code := k_L35) yk_L35 300 0 _ _ _ _ (yce_ck yk_L35 rfl) rfl (sg_L35 ?_)
  refine ⟨⟨by omega, by omega⟩, rfl, ⟨by omega, by omega⟩, (by decide), ?_⟩
  refine c_W_count hA ?_
  refine ⟨⟨by omega, by omega⟩, rfl, ⟨by omega, by omega⟩, (by decide), ?_⟩
  refine c_M_count hM ?_
  exact ⟨fun _ => K _ _ hA hM (GOk_le (by omega) hG), fun q => absurd rfl q⟩
theorem lc_4b {r : Int} (hi : 0 ≤ i ∧ i + 6 ≤ zgL G) (hL : zgL G ≤ 3072) (hA : AC v s) (hM : AM v s) (hG : GOk s B)
    (hr : (r = 0 ∧ cOk s (zgS G (i + 1)) (zgS G (i + 2)) ∧ v 114 0 = aCellV (gW s) (gS s) (gC s) (zgS G (i + 1)) (zgS G (i + 2))) ∨ (r = 1 ∧ ¬ cOk s (zgS G (i + 1)) (zgS G (i + 2))))
    (K : ∀ (v' : zH) (s' : zSg), AC v' s' → AM v' s' → GOk s' (B + 72) → yJp Ee l G 1 (59 + 1) h_Lw_law 115 QF QXF 1459 [(2, -20), (2, 0), (2, 77), (2, 114), (0, i), (3, 0), (3, 0)] [] v' 115) : yJp Ee l G 1 (59 + 1) h_Lw_law 115 QF QXF 365 [(2, -20), (2, 0), (2, 77), (2, 114), (0, i), (3, 0), (3, 0)] [(0, r)] v 115 := by
  refine ygo (code := k_L4b) yk_L4b 300 0 _ _ _ _ (yce_ck yk_L4b rfl) rfl (sg_L4b ?_)
  refine ⟨⟨by omega, by omega⟩, rfl, ⟨by omega, by omega⟩, ⟨by omega, by omega⟩, rfl, ⟨by omega, by omega⟩, by decide, ?_⟩
  rcases hr with ⟨rfl, h, h114⟩ | ⟨rfl, h⟩
  · refine c_M_cell hM.1 h.1 h.2 (fun v2 z1 z2 z3 => ?_)
    have hM2 := AM_fz z1 z2 hM
    have hF := Fz_Fm z1
    refine ⟨by decide, c_M_thrown ?_⟩
    have e4 : v2 114 0 = aCellV (gW s) (gS s) (gC s) (zgS G (i + 1)) (zgS G (i + 2)) := by rw [hF 114 (Or.inr (by omega))]; exact h114
    refine ⟨fun _ => ⟨fun q => absurd rfl q, fun _ => ⟨by decide, by decide, fun _ => K _ _ (AC_fr (fun b q => hF b (Or.inl q)) hA) hM2 (GOk_le (by omega) hG), fun q => absurd ?_ q⟩⟩, fun q => absurd z3 q⟩
    rw [e4]
    unfold zcmp
    rw [if_neg (by omega), if_pos rfl]
  · refine c_M_cellX hM.1 h (fun v2 z1 z2 z3 => ?_)
    have hM2 := AM_fz z1 z2 hM
    have hF := Fz_Fm z1
    refine ⟨by decide, c_M_thrown ?_⟩
    exact ⟨fun _ => ⟨fun _ => K _ _ (AC_fr (fun b q => hF b (Or.inl q)) hA) hM2 (GOk_le (by omega) hG), fun q => absurd q (by decide)⟩, fun q => absurd z3 q⟩
theorem lc_i (hi : 0 ≤ i ∧ i ≤ 3072) (K : yJp Ee l G 1 (59 + 1) h_Lw_law 115 QF QXF 23 [(2, -20), (2, 0), (2, 77), (2, 114), (0, i + 6), (3, 0), (3, 0)] [] v 115) : yJp Ee l G 1 (59 + 1) h_Lw_law 115 QF QXF 1459 [(2, -20), (2, 0), (2, 77), (2, 114), (0, i), (3, 0), (3, 0)] [] v 115 := by
  refine ygo (code := k_Li) yk_Li 300 0 _ _ _ _ (yce_ck yk_Li rfl) rfl (sg_Li ?_)
  exact ⟨⟨by omega, by omega⟩, K⟩
end
