/-! what each stretch comes to -/
set_option maxRecDepth 100000 in
theorem sg_W_feed_0 {l : Launch} {G : zG} {d : Nat} {Q : Int → zH → Prop} {QX : Nat → zH → Prop} {K : Nat → List zV → List zV → zH → Nat → Prop} {a0 a1 a2 a3 a4 a5 : Int} {v : zH} (h : zC l G 1 d h_Ta_bytesIn [(0, a1)] v 115 (fun r1 v1 =>
  zC l G 1 d h_Ta_bytesIn [(0, a2)] v1 115 (fun r2 v2 =>
  zI (r1 + r2) ∧ zC l G 1 d h_Ta_bytesIn [(0, a3)] v2 115 (fun r3 v3 =>
  zI ((r1 + r2) + r3) ∧ zC l G 1 d h_Ta_bytesIn [(0, a4)] v3 115 (fun r4 v4 =>
  zI (((r1 + r2) + r3) + r4) ∧ zC l G 1 d h_Ta_bytesIn [(0, a5)] v4 115 (fun r5 v5 =>
  zI ((((r1 + r2) + r3) + r4) + r5) ∧ zCL a0 = 10 ∧ zCL (a0 + 1) = 6 ∧ zI ((v5 (a0 + 1) 1) + ((((r1 + r2) + r3) + r4) + r5)) ∧ ((((v5 (a0 + 1) 1) + ((((r1 + r2) + r3) + r4) + r5)) ≤ 160 →
  zCL a0 = 10 ∧ zCL (a0 + 1) = 6 ∧ zC l G 1 d h_Ta_append [(2, a0 + 1), (0, a1)] v5 115 (fun _ v6 =>
    zCL a0 = 10 ∧ zCL (a0 + 1) = 6 ∧ zC l G 1 d h_Ta_append [(2, a0 + 1), (0, a2)] v6 115 (fun _ v7 =>
    zCL a0 = 10 ∧ zCL (a0 + 1) = 6 ∧ zC l G 1 d h_Ta_append [(2, a0 + 1), (0, a3)] v7 115 (fun _ v8 =>
    zCL a0 = 10 ∧ zCL (a0 + 1) = 6 ∧ zC l G 1 d h_Ta_append [(2, a0 + 1), (0, a4)] v8 115 (fun _ v9 =>
    zCL a0 = 10 ∧ zCL (a0 + 1) = 6 ∧ zC l G 1 d h_Ta_append [(2, a0 + 1), (0, a5)] v9 115 (fun _ v10 =>
    zCL a0 = 10 ∧ zCL (a0 + 1) = 6 ∧ Q (v10 (a0 + 1) 1) v10)))))) ∧
  (160 < ((v5 (a0 + 1) 1) + ((((r1 + r2) + r3) + r4) + r5)) →
  Q ((-1)) v5)))))))) : zx l G 1 (d + 1) h_W_feed k_W_feed 115 Q QX K 300 (k_W_feed.drop 0) [(2, a0), (0, a1), (0, a2), (0, a3), (0, a4), (0, a5), (3, 0)] [] v 115 := h
set_option maxRecDepth 100000 in
theorem sg_W_end_0 {l : Launch} {G : zG} {d : Nat} {Q : Int → zH → Prop} {QX : Nat → zH → Prop} {K : Nat → List zV → List zV → zH → Nat → Prop} {a0 a1 : Int} {v : zH} (h : zCL a0 = 10 ∧ zCL (a0 + 1) = 6 ∧ zC l G 1 d h_W_within [(0, a1), (0, 0), (0, v (a0 + 1) 1)] v 115 (fun r1 v1 =>
  ((¬ r1 = 0 →
  zCL a0 = 10 ∧ zCL (a0 + 1) = 6 ∧ ((1 : Int) = 0 ∨ (1 : Int) = 1) ∧ Q 1 (zupd v1 (a0 + 1) 1 a1)) ∧
  (r1 = 0 →
  ((0 : Int) = 0 ∨ (0 : Int) = 1) ∧ Q 0 v1)))) : zx l G 1 (d + 1) h_W_end k_W_end 115 Q QX K 300 (k_W_end.drop 0) [(2, a0), (0, a1)] [] v 115 := h
set_option maxRecDepth 100000 in
theorem sg_W_fault_0 {l : Launch} {G : zG} {d : Nat} {Q : Int → zH → Prop} {QX : Nat → zH → Prop} {K : Nat → List zV → List zV → zH → Nat → Prop} {a0 a1 : Int} {v : zH} (h : ((a1 = 0 →
  zCL a0 = 10 ∧ zCL a0 = 10 ∧ v a0 11 ≠ -1000 ∧ zCL (a0 + 3) = 9 ∧ zC l G 1 d h_WR_faultOf [(2, a0 + 3), (2, v a0 11)] v 115 (fun r1 v1 =>
    Q r1 v1)) ∧
  (¬ a1 = 0 → ((a1 = 1 →
  zCL a0 = 10 ∧ zCL a0 = 10 ∧ zCL (a0 + 5) = 5 ∧ zC l G 1 d h_Sk_draft [(2, a0 + 5)] v 115 (fun r2 v2 =>
    zCL (a0 + 4) = 3 ∧ zC l G 1 d h_LR_faultOf [(2, a0 + 4), (2, r2)] v2 115 (fun r3 v3 =>
    Q r3 v3))) ∧
  (¬ a1 = 1 → 
  Q ((-2)) v))))) : zx l G 1 (d + 1) h_W_fault k_W_fault 115 Q QX K 300 (k_W_fault.drop 0) [(2, a0), (0, a1)] [] v 115 := h
set_option maxRecDepth 100000 in
theorem sg_W_text_0 {l : Launch} {G : zG} {d : Nat} {Q : Int → zH → Prop} {QX : Nat → zH → Prop} {K : Nat → List zV → List zV → zH → Nat → Prop} {a0 a1 : Int} {v : zH} (h : ((a1 = 0 →
  zCL a0 = 10 ∧ zC l G 1 d h_W_newWall [(2, a0)] v 115 (fun r1 v1 =>
    Q r1 v1)) ∧
  (¬ a1 = 0 → ((a1 = 1 →
  zCL a0 = 10 ∧ zC l G 1 d h_W_newLaw [(2, a0)] v 115 (fun r2 v2 =>
    Q r2 v2)) ∧
  (¬ a1 = 1 → 
  Q ((-1)) v))))) : zx l G 1 (d + 1) h_W_text k_W_text 115 Q QX K 300 (k_W_text.drop 0) [(2, a0), (0, a1)] [] v 115 := h
set_option maxRecDepth 100000 in
theorem sg_W_newWall_0 {l : Launch} {G : zG} {d : Nat} {Q : Int → zH → Prop} {QX : Nat → zH → Prop} {K : Nat → List zV → List zV → zH → Nat → Prop} {a0 : Int} {v : zH} (h : zCL a0 = 10 ∧ zCL a0 = 10 ∧ v a0 11 ≠ -1000 ∧ zCL (a0 + 3) = 9 ∧ zC l G 1 d h_WR_faultOf [(2, a0 + 3), (2, v a0 11)] v 115 (fun r1 v1 =>
  ((r1 = ((-1)) →
  zCL a0 = 10 ∧ v1 a0 11 ≠ -1000 ∧ zCL a0 = 10 ∧ v1 a0 10 ≠ -1000 ∧ zCL a0 = 10 ∧ zCL a0 = 10 ∧ zCL a0 = 10 ∧ (zupd (zupd v1 a0 11 (v1 a0 10)) a0 10 (v1 a0 11)) a0 10 ≠ -1000 ∧ zCL ((zupd (zupd v1 a0 11 (v1 a0 10)) a0 10 (v1 a0 11)) a0 10) = 8 ∧ zC l G 1 d h_Wa_lay [(2, (zupd (zupd v1 a0 11 (v1 a0 10)) a0 10 (v1 a0 11)) a0 10)] (zupd (zupd v1 a0 11 (v1 a0 10)) a0 10 (v1 a0 11)) 115 (fun _ v2 =>
    zCL a0 = 10 ∧ zCL a0 = 10 ∧ v2 a0 10 ≠ -1000 ∧ zCL (a0 + 24) = 0 ∧ zC l G 1 d h_Co_begin [(2, a0 + 24), (2, v2 a0 10)] v2 115 (fun _ v3 =>
    zCL a0 = 10 ∧ zCL (a0 + 42) = 4 ∧ zC l G 1 d h_Pa_forget [(2, a0 + 42)] v3 115 (fun _ v4 =>
    zCL a0 = 10 ∧ zCL (a0 + 45) = 7 ∧ zCL a0 = 10 ∧ zCL (a0 + 5) = 5 ∧ zCL a0 = 10 ∧ zCL (a0 + 1) = 6 ∧ zCL a0 = 10 ∧ (zupd (zupd (zupd v4 (a0 + 45) 3 0) (a0 + 5) 5 0) (a0 + 1) 1 0) a0 10 ≠ -1000 ∧ zCL ((zupd (zupd (zupd v4 (a0 + 45) 3 0) (a0 + 5) 5 0) (a0 + 1) 1 0) a0 10) = 8 ∧ Q ((zupd (zupd (zupd v4 (a0 + 45) 3 0) (a0 + 5) 5 0) (a0 + 1) 1 0) ((zupd (zupd (zupd v4 (a0 + 45) 3 0) (a0 + 5) 5 0) (a0 + 1) 1 0) a0 10) 11) (zupd (zupd (zupd v4 (a0 + 45) 3 0) (a0 + 5) 5 0) (a0 + 1) 1 0))))) ∧
  (¬ r1 = ((-1)) →
  Q ((-1)) v1)))) : zx l G 1 (d + 1) h_W_newWall k_W_newWall 115 Q QX K 300 (k_W_newWall.drop 0) [(2, a0), (3, 0)] [] v 115 := h
set_option maxRecDepth 100000 in
theorem sg_W_newLaw_0 {l : Launch} {G : zG} {d : Nat} {Q : Int → zH → Prop} {QX : Nat → zH → Prop} {K : Nat → List zV → List zV → zH → Nat → Prop} {a0 : Int} {v : zH} (h : zCL a0 = 10 ∧ zCL (a0 + 5) = 5 ∧ (((v (a0 + 5) 3) = 4 →
  Q ((-1)) v) ∧
  (¬ (v (a0 + 5) 3) = 4 →
  zCL a0 = 10 ∧ zCL a0 = 10 ∧ zCL (a0 + 5) = 5 ∧ zC l G 1 d h_Sk_draft [(2, a0 + 5)] v 115 (fun r1 v1 =>
    zCL (a0 + 4) = 3 ∧ zC l G 1 d h_LR_faultOf [(2, a0 + 4), (2, r1)] v1 115 (fun r2 v2 =>
    ((r2 = ((-1)) →
    zCL a0 = 10 ∧ zCL (a0 + 1) = 6 ∧ zCL a0 = 10 ∧ zCL (a0 + 5) = 5 ∧ zI (((zupd v2 (a0 + 1) 1 0) (a0 + 5) 3) + 1) ∧ zCL (a0 + 5) = 5 ∧ zCL a0 = 10 ∧ zCL (a0 + 5) = 5 ∧ zI (((zupd (zupd v2 (a0 + 1) 1 0) (a0 + 5) 3 (((zupd v2 (a0 + 1) 1 0) (a0 + 5) 3) + 1)) (a0 + 5) 3) - 1) ∧ Q (((zupd (zupd v2 (a0 + 1) 1 0) (a0 + 5) 3 (((zupd v2 (a0 + 1) 1 0) (a0 + 5) 3) + 1)) (a0 + 5) 3) - 1) (zupd (zupd v2 (a0 + 1) 1 0) (a0 + 5) 3 (((zupd v2 (a0 + 1) 1 0) (a0 + 5) 3) + 1))) ∧
    (¬ r2 = ((-1)) →
    Q ((-1)) v2))))))) : zx l G 1 (d + 1) h_W_newLaw k_W_newLaw 115 Q QX K 300 (k_W_newLaw.drop 0) [(2, a0)] [] v 115 := h
set_option maxRecDepth 100000 in
theorem sg_W_cell_0 {l : Launch} {G : zG} {d : Nat} {Q : Int → zH → Prop} {QX : Nat → zH → Prop} {K : Nat → List zV → List zV → zH → Nat → Prop} {a0 a1 a2 : Int} {v : zH} (h : zCL a0 = 10 ∧ v a0 10 ≠ -1000 ∧ zCL (v a0 10) = 8 ∧ zC l G 1 d h_Wa_indexOf [(2, v a0 10), (0, a1)] v 115 (fun r1 v1 =>
  ((¬ r1 = ((-1)) →
  ((a2 < 0 → ([] : List zV) = [] ∧ (115 : Nat) = 115 ∧ QX 133 v1) ∧
    (a2 = 0 → zCL a0 = 10 ∧ zCL (a0 + 24) = 0 ∧ zCL ((a0 + 24) + 3) = 20 ∧ (0 ≤ r1 ∧ r1 < zLN ((a0 + 24) + 3)) ∧ Q (v1 ((a0 + 24) + 3) r1) v1) ∧
    (a2 = 1 → zCL a0 = 10 ∧ zCL (a0 + 24) = 0 ∧ zCL ((a0 + 24) + 1) = 20 ∧ (0 ≤ r1 ∧ r1 < zLN ((a0 + 24) + 1)) ∧ Q (v1 ((a0 + 24) + 1) r1) v1) ∧
    (a2 = 2 → zCL a0 = 10 ∧ zCL a0 = 10 ∧ zCL (a0 + 24) = 0 ∧ zCL a0 = 10 ∧ v1 a0 10 ≠ -1000 ∧ zCL (v1 a0 10) = 8 ∧ zCL ((v1 a0 10) + 9) = 20 ∧ (0 ≤ r1 ∧ r1 < zLN ((v1 a0 10) + 9)) ∧ zCL a0 = 10 ∧ v1 a0 10 ≠ -1000 ∧ zCL (v1 a0 10) = 8 ∧ zCL ((v1 a0 10) + 10) = 20 ∧ (0 ≤ r1 ∧ r1 < zLN ((v1 a0 10) + 10)) ∧ zCL a0 = 10 ∧ zCL (a0 + 24) = 0 ∧ zCL ((a0 + 24) + 3) = 20 ∧ (0 ≤ r1 ∧ r1 < zLN ((a0 + 24) + 3)) ∧ zCL (a0 + 5) = 5 ∧ zC l G 1 d h_Sk_sunOn [(2, a0 + 5), (0, v1 (a0 + 24) 8), (0, v1 ((v1 a0 10) + 9) r1), (0, v1 ((v1 a0 10) + 10) r1), (0, v1 ((a0 + 24) + 3) r1)] v1 115 (fun r2 v2 =>
      Q r2 v2)) ∧
    (a2 = 3 → zCL a0 = 10 ∧ zC l G 1 d h_W_goAhead [(2, a0), (0, 1)] v1 115 (fun _ v3 =>
      zCL a0 = 10 ∧ zCL (a0 + 33) = 0 ∧ zCL ((a0 + 33) + 2) = 20 ∧ (0 ≤ r1 ∧ r1 < zLN ((a0 + 33) + 2)) ∧ Q (v3 ((a0 + 33) + 2) r1) v3)) ∧
    (4 ≤ a2 → ([] : List zV) = [] ∧ (115 : Nat) = 115 ∧ QX 133 v1))) ∧
  (r1 = ((-1)) →
  ([] : List zV) = [] ∧ (115 : Nat) = 115 ∧ QX 14 v1)))) : zx l G 1 (d + 1) h_W_cell k_W_cell 115 Q QX K 300 (k_W_cell.drop 0) [(2, a0), (0, a1), (0, a2), (3, 0)] [] v 115 := h
set_option maxRecDepth 100000 in
theorem sg_W_stone_0 {l : Launch} {G : zG} {d : Nat} {Q : Int → zH → Prop} {QX : Nat → zH → Prop} {K : Nat → List zV → List zV → zH → Nat → Prop} {a0 a1 a2 : Int} {v : zH} (h : zCL a0 = 10 ∧ v a0 10 ≠ -1000 ∧ zCL (v a0 10) = 8 ∧ zCL ((v a0 10) + 1) = 1 ∧ zC l G 1 d h_Ki_number [(2, (v a0 10) + 1), (0, a1), (0, a2)] v 115 (fun r1 v1 =>
  Q r1 v1)) : zx l G 1 (d + 1) h_W_stone k_W_stone 115 Q QX K 300 (k_W_stone.drop 0) [(2, a0), (0, a1), (0, a2)] [] v 115 := h
set_option maxRecDepth 100000 in
theorem sg_W_oven_0 {l : Launch} {G : zG} {d : Nat} {Q : Int → zH → Prop} {QX : Nat → zH → Prop} {K : Nat → List zV → List zV → zH → Nat → Prop} {a0 a1 a2 : Int} {v : zH} (h : zCL a0 = 10 ∧ v a0 10 ≠ -1000 ∧ zCL (v a0 10) = 8 ∧ zCL ((v a0 10) + 3) = 1 ∧ zC l G 1 d h_Ki_has [(2, (v a0 10) + 3), (0, a1)] v 115 (fun r1 v1 =>
  ((¬ r1 = 0 →
  ((a2 < 0 → Q ((-1)) v1) ∧
    (a2 = 0 → zCL a0 = 10 ∧ v1 a0 10 ≠ -1000 ∧ zCL (v1 a0 10) = 8 ∧ zCL ((v1 a0 10) + 3) = 1 ∧ zC l G 1 d h_Ki_number [(2, (v1 a0 10) + 3), (0, a1), (0, 0)] v1 115 (fun r2 v2 =>
      zI (10 * r2) ∧ zCL a0 = 10 ∧ v2 a0 10 ≠ -1000 ∧ zCL (v2 a0 10) = 8 ∧ zCL ((v2 a0 10) + 3) = 1 ∧ zC l G 1 d h_Ki_number [(2, (v2 a0 10) + 3), (0, a1), (0, 1)] v2 115 (fun r3 v3 =>
      zI ((10 * r2) + r3) ∧ Q ((10 * r2) + r3) v3))) ∧
    (a2 = 1 → zCL a0 = 10 ∧ zCL (a0 + 24) = 0 ∧ zCL ((a0 + 24) + 4) = 20 ∧ (0 ≤ a1 ∧ a1 < zLN ((a0 + 24) + 4)) ∧ Q (v1 ((a0 + 24) + 4) a1) v1) ∧
    (a2 = 2 → zCL a0 = 10 ∧ zCL (a0 + 24) = 0 ∧ zCL ((a0 + 24) + 5) = 20 ∧ (0 ≤ a1 ∧ a1 < zLN ((a0 + 24) + 5)) ∧ Q (v1 ((a0 + 24) + 5) a1) v1) ∧
    (a2 = 3 → zCL a0 = 10 ∧ v1 a0 10 ≠ -1000 ∧ zCL (v1 a0 10) = 8 ∧ zCL ((v1 a0 10) + 3) = 1 ∧ zC l G 1 d h_Ki_number [(2, (v1 a0 10) + 3), (0, a1), (0, 4)] v1 115 (fun r4 v4 =>
      Q r4 v4)) ∧
    (a2 = 4 → zCL a0 = 10 ∧ zCL (a0 + 24) = 0 ∧ zC l G 1 d h_Co_burns [(2, a0 + 24), (0, a1)] v1 115 (fun r5 v5 =>
      ((r5 = 0 →
      Q 0 v5) ∧
      (¬ r5 = 0 →
      Q 1 v5)))) ∧
    (5 ≤ a2 → Q ((-1)) v1))) ∧
  (r1 = 0 →
  Q ((-1)) v1)))) : zx l G 1 (d + 1) h_W_oven k_W_oven 115 Q QX K 300 (k_W_oven.drop 0) [(2, a0), (0, a1), (0, a2)] [] v 115 := h
set_option maxRecDepth 100000 in
theorem sg_W_sleeper_0 {l : Launch} {G : zG} {d : Nat} {Q : Int → zH → Prop} {QX : Nat → zH → Prop} {K : Nat → List zV → List zV → zH → Nat → Prop} {a0 a1 a2 : Int} {v : zH} (h : zCL a0 = 10 ∧ v a0 10 ≠ -1000 ∧ zCL (v a0 10) = 8 ∧ zCL ((v a0 10) + 5) = 1 ∧ zC l G 1 d h_Ki_number [(2, (v a0 10) + 5), (0, a1), (0, a2)] v 115 (fun r1 v1 =>
  Q r1 v1)) : zx l G 1 (d + 1) h_W_sleeper k_W_sleeper 115 Q QX K 300 (k_W_sleeper.drop 0) [(2, a0), (0, a1), (0, a2)] [] v 115 := h
set_option maxRecDepth 100000 in
theorem sg_W_count_0 {l : Launch} {G : zG} {d : Nat} {Q : Int → zH → Prop} {QX : Nat → zH → Prop} {K : Nat → List zV → List zV → zH → Nat → Prop} {a0 a1 : Int} {v : zH} (h : ((a1 < 0 → Q ((-1000000)) v) ∧
  (a1 = 0 → zCL a0 = 10 ∧ v a0 10 ≠ -1000 ∧ zCL (v a0 10) = 8 ∧ Q (v (v a0 10) 9) v) ∧
  (a1 = 1 → zCL a0 = 10 ∧ v a0 10 ≠ -1000 ∧ zCL (v a0 10) = 8 ∧ Q (v (v a0 10) 10) v) ∧
  (a1 = 2 → zCL a0 = 10 ∧ v a0 10 ≠ -1000 ∧ zCL (v a0 10) = 8 ∧ zCL ((v a0 10) + 1) = 1 ∧ Q (v ((v a0 10) + 1) 6) v) ∧
  (a1 = 3 → zCL a0 = 10 ∧ v a0 10 ≠ -1000 ∧ zCL (v a0 10) = 8 ∧ zCL ((v a0 10) + 3) = 1 ∧ Q (v ((v a0 10) + 3) 6) v) ∧
  (a1 = 4 → zCL a0 = 10 ∧ v a0 10 ≠ -1000 ∧ zCL (v a0 10) = 8 ∧ zCL ((v a0 10) + 5) = 1 ∧ Q (v ((v a0 10) + 5) 6) v) ∧
  (a1 = 5 → zCL a0 = 10 ∧ zCL (a0 + 5) = 5 ∧ Q (v (a0 + 5) 3) v) ∧
  (a1 = 6 → zCL a0 = 10 ∧ zCL (a0 + 1) = 6 ∧ Q (v (a0 + 1) 1) v) ∧
  (a1 = 7 → zCL a0 = 10 ∧ zCL (a0 + 24) = 0 ∧ Q (v (a0 + 24) 8) v) ∧
  (a1 = 8 → zCL a0 = 10 ∧ zCL (a0 + 5) = 5 ∧ Q (v (a0 + 5) 4) v) ∧
  (a1 = 9 → zCL a0 = 10 ∧ zCL (a0 + 45) = 7 ∧ Q (v (a0 + 45) 3) v) ∧
  (a1 = 10 → zCL a0 = 10 ∧ zCL (a0 + 42) = 4 ∧ Q (v (a0 + 42) 5) v) ∧
  (a1 = 11 → zCL a0 = 10 ∧ zCL (a0 + 5) = 5 ∧ Q (v (a0 + 5) 5) v) ∧
  (12 ≤ a1 → Q ((-1000000)) v))) : zx l G 1 (d + 1) h_W_count k_W_count 115 Q QX K 300 (k_W_count.drop 0) [(2, a0), (0, a1)] [] v 115 := h
set_option maxRecDepth 100000 in
theorem sg_W_law_0 {l : Launch} {G : zG} {d : Nat} {Q : Int → zH → Prop} {QX : Nat → zH → Prop} {K : Nat → List zV → List zV → zH → Nat → Prop} {a0 a1 : Int} {v : zH} (h : zCL a0 = 10 ∧ zCL (a0 + 5) = 5 ∧ zI ((v (a0 + 5) 3) - 1) ∧ zC l G 1 d h_W_within [(0, a1), (0, (-1)), (0, (v (a0 + 5) 3) - 1)] v 115 (fun r1 v1 =>
  ((¬ r1 = 0 →
  zCL a0 = 10 ∧ zCL (a0 + 5) = 5 ∧ zC l G 1 d h_Sk_obey [(2, a0 + 5), (0, a1)] v1 115 (fun _ v2 =>
    ((1 : Int) = 0 ∨ (1 : Int) = 1) ∧ Q 1 v2)) ∧
  (r1 = 0 →
  ((0 : Int) = 0 ∨ (0 : Int) = 1) ∧ Q 0 v1)))) : zx l G 1 (d + 1) h_W_law k_W_law 115 Q QX K 300 (k_W_law.drop 0) [(2, a0), (0, a1)] [] v 115 := h
set_option maxRecDepth 100000 in
theorem sg_W_rain_0 {l : Launch} {G : zG} {d : Nat} {Q : Int → zH → Prop} {QX : Nat → zH → Prop} {K : Nat → List zV → List zV → zH → Nat → Prop} {a0 a1 a2 : Int} {v : zH} (h : zCL a0 = 10 ∧ v a0 10 ≠ -1000 ∧ zCL (v a0 10) = 8 ∧ (((v (v a0 10) 11) = 0 →
  ((0 : Int) = 0 ∨ (0 : Int) = 1) ∧ Q 0 v) ∧
  (¬ (v (v a0 10) 11) = 0 →
  zC l G 1 d h_W_within [(0, a1), (0, 0), (0, 23)] v 115 (fun r1 v1 =>
    ((r1 = 0 →
    ((0 : Int) = 0 ∨ (0 : Int) = 1) ∧ Q 0 v1) ∧
    (¬ r1 = 0 →
    zCL a0 = 10 ∧ zCL (a0 + 5) = 5 ∧ zC l G 1 d h_Sk_rainsAt [(2, a0 + 5), (0, a1)] v1 115 (fun r2 v2 =>
      ((¬ r2 = a2 →
      zCL a0 = 10 ∧ zCL (a0 + 5) = 5 ∧ zCL (a0 + 5) = 5 ∧ ((1 : Int) = 0 ∨ (1 : Int) = 1) ∧ Q 1 (zupd v2 (a0 + 5) 5 (zxor (v2 (a0 + 5) 5) (zshl 1 a1)))) ∧
      (r2 = a2 →
      ((0 : Int) = 0 ∨ (0 : Int) = 1) ∧ Q 0 v2))))))))) : zx l G 1 (d + 1) h_W_rain k_W_rain 115 Q QX K 300 (k_W_rain.drop 0) [(2, a0), (0, a1), (0, a2)] [] v 115 := h
set_option maxRecDepth 100000 in
theorem sg_W_warm_0 {l : Launch} {G : zG} {d : Nat} {Q : Int → zH → Prop} {QX : Nat → zH → Prop} {K : Nat → List zV → List zV → zH → Nat → Prop} {a0 a1 a2 : Int} {v : zH} (h : zCL a0 = 10 ∧ v a0 10 ≠ -1000 ∧ zCL (v a0 10) = 8 ∧ zC l G 1 d h_Wa_indexOf [(2, v a0 10), (0, a1)] v 115 (fun r1 v1 =>
  ((r1 = ((-1)) →
  ((0 : Int) = 0 ∨ (0 : Int) = 1) ∧ Q 0 v1) ∧
  (¬ r1 = ((-1)) →
  zCL a0 = 10 ∧ v1 a0 10 ≠ -1000 ∧ zCL (v1 a0 10) = 8 ∧ zCL a0 = 10 ∧ zCL (a0 + 24) = 0 ∧ zCL ((a0 + 24) + 3) = 20 ∧ (0 ≤ r1 ∧ r1 < zLN ((a0 + 24) + 3)) ∧ zCL ((v1 a0 10) + 1) = 1 ∧ zC l G 1 d h_Ki_number [(2, (v1 a0 10) + 1), (0, v1 ((a0 + 24) + 3) r1), (0, 1)] v1 115 (fun r2 v2 =>
    zC l G 1 d h_W_within [(0, a2), (0, 0), (0, r2)] v2 115 (fun r3 v3 =>
    ((¬ r3 = 0 →
    zCL a0 = 10 ∧ zCL (a0 + 24) = 0 ∧ zCL ((a0 + 24) + 1) = 20 ∧ (0 ≤ r1 ∧ r1 < zLN ((a0 + 24) + 1)) ∧ ((1 : Int) = 0 ∨ (1 : Int) = 1) ∧ Q 1 (zupd v3 ((a0 + 24) + 1) r1 a2)) ∧
    (r3 = 0 →
    ((0 : Int) = 0 ∨ (0 : Int) = 1) ∧ Q 0 v3)))))))) : zx l G 1 (d + 1) h_W_warm k_W_warm 115 Q QX K 300 (k_W_warm.drop 0) [(2, a0), (0, a1), (0, a2), (3, 0)] [] v 115 := h
set_option maxRecDepth 100000 in
theorem sg_W_bake_0 {l : Launch} {G : zG} {d : Nat} {Q : Int → zH → Prop} {QX : Nat → zH → Prop} {K : Nat → List zV → List zV → zH → Nat → Prop} {a0 a1 a2 a3 : Int} {v : zH} (h : zCL a0 = 10 ∧ v a0 10 ≠ -1000 ∧ zCL (v a0 10) = 8 ∧ zCL ((v a0 10) + 3) = 1 ∧ zC l G 1 d h_Ki_has [(2, (v a0 10) + 3), (0, a1)] v 115 (fun r1 v1 =>
  ((r1 = 0 →
  ((0 : Int) = 0 ∨ (0 : Int) = 1) ∧ Q 0 v1) ∧
  (¬ r1 = 0 →
  zC l G 1 d h_W_within [(0, a2), (0, 0), (0, 23)] v1 115 (fun r2 v2 =>
    ((r2 = 0 →
    ((0 : Int) = 0 ∨ (0 : Int) = 1) ∧ Q 0 v2) ∧
    (¬ r2 = 0 →
    zC l G 1 d h_W_within [(0, a3), (0, 0), (0, 23)] v2 115 (fun r3 v3 =>
      ((¬ r3 = 0 →
      zCL a0 = 10 ∧ zCL (a0 + 24) = 0 ∧ zCL ((a0 + 24) + 4) = 20 ∧ (0 ≤ a1 ∧ a1 < zLN ((a0 + 24) + 4)) ∧ zCL a0 = 10 ∧ zCL (a0 + 24) = 0 ∧ zCL ((a0 + 24) + 5) = 20 ∧ (0 ≤ a1 ∧ a1 < zLN ((a0 + 24) + 5)) ∧ ((1 : Int) = 0 ∨ (1 : Int) = 1) ∧ Q 1 (zupd (zupd v3 ((a0 + 24) + 4) a1 a2) ((a0 + 24) + 5) a1 a3)) ∧
      (r3 = 0 →
      ((0 : Int) = 0 ∨ (0 : Int) = 1) ∧ Q 0 v3)))))))))) : zx l G 1 (d + 1) h_W_bake k_W_bake 115 Q QX K 300 (k_W_bake.drop 0) [(2, a0), (0, a1), (0, a2), (0, a3)] [] v 115 := h
set_option maxRecDepth 100000 in
theorem sg_W_hours_0 {l : Launch} {G : zG} {d : Nat} {Q : Int → zH → Prop} {QX : Nat → zH → Prop} {K : Nat → List zV → List zV → zH → Nat → Prop} {a0 a1 : Int} {v : zH} (h : zCL a0 = 10 ∧ v a0 10 ≠ -1000 ∧ zCL (v a0 10) = 8 ∧ (((v (v a0 10) 11) = 0 →
  Q ((-1)) v) ∧
  (¬ (v (v a0 10) 11) = 0 →
  zC l G 1 d h_W_within [(0, a1), (0, 1), (0, 72)] v 115 (fun r1 v1 =>
    ((¬ r1 = 0 →
    K 13 [(2, a0), (0, a1), (0, 0)] [] v1 115) ∧
    (r1 = 0 →
    Q ((-1)) v1)))))) : zx l G 1 (d + 1) h_W_hours k_W_hours 115 Q QX K 300 (k_W_hours.drop 0) [(2, a0), (0, a1), (3, 0)] [] v 115 := h
set_option maxRecDepth 100000 in
theorem sg_W_hours_13 {l : Launch} {G : zG} {d : Nat} {Q : Int → zH → Prop} {QX : Nat → zH → Prop} {K : Nat → List zV → List zV → zH → Nat → Prop} {a0 a1 a2 : Int} {v : zH} (h : ((a1 ≤ a2 →
  zCL a0 = 10 ∧ zCL (a0 + 24) = 0 ∧ Q (v (a0 + 24) 8) v) ∧
  (a2 < a1 →
  zCL a0 = 10 ∧ zCL a0 = 10 ∧ zCL (a0 + 42) = 4 ∧ zC l G 1 d h_Pa_keep [(2, a0 + 42), (2, a0 + 24)] v 115 (fun _ v1 =>
    zCL a0 = 10 ∧ zCL a0 = 10 ∧ v1 a0 10 ≠ -1000 ∧ zCL a0 = 10 ∧ zCL (a0 + 24) = 0 ∧ zC l G 1 d h_Co_step [(2, a0 + 24), (2, v1 a0 10), (2, a0 + 5)] v1 115 (fun _ v2 =>
    zI (a2 + 1) ∧ K 13 [(2, a0), (0, a1), (0, a2 + 1)] [] v2 115))))) : zx l G 1 (d + 1) h_W_hours k_W_hours 115 Q QX K 300 (k_W_hours.drop 13) [(2, a0), (0, a1), (0, a2)] [] v 115 := h
set_option maxRecDepth 100000 in
theorem sg_W_undo_0 {l : Launch} {G : zG} {d : Nat} {Q : Int → zH → Prop} {QX : Nat → zH → Prop} {K : Nat → List zV → List zV → zH → Nat → Prop} {a0 : Int} {v : zH} (h : zCL a0 = 10 ∧ zCL a0 = 10 ∧ zCL (a0 + 42) = 4 ∧ zC l G 1 d h_Pa_takeBack [(2, a0 + 42), (2, a0 + 24)] v 115 (fun r1 v1 =>
  ((r1 = 0 →
  Q ((-1)) v1) ∧
  (¬ r1 = 0 →
  zCL a0 = 10 ∧ zCL (a0 + 24) = 0 ∧ Q (v1 (a0 + 24) 8) v1)))) : zx l G 1 (d + 1) h_W_undo k_W_undo 115 Q QX K 300 (k_W_undo.drop 0) [(2, a0)] [] v 115 := h
set_option maxRecDepth 100000 in
theorem sg_W_image_0 {l : Launch} {G : zG} {d : Nat} {Q : Int → zH → Prop} {QX : Nat → zH → Prop} {K : Nat → List zV → List zV → zH → Nat → Prop} {a0 : Int} {v : zH} (h : zCL a0 = 10 ∧ v a0 10 ≠ -1000 ∧ zCL (v a0 10) = 8 ∧ ((¬ (v (v a0 10) 11) = 0 →
  zCL a0 = 10 ∧ zCL a0 = 10 ∧ zCL (a0 + 42) = 4 ∧ zC l G 1 d h_Pa_draw [(2, a0 + 42), (2, a0 + 24)] v 115 (fun _ v1 =>
    zCL a0 = 10 ∧ zCL (a0 + 24) = 0 ∧ Q (v1 (a0 + 24) 8) v1)) ∧
  ((v (v a0 10) 11) = 0 →
  Q ((-1)) v))) : zx l G 1 (d + 1) h_W_image k_W_image 115 Q QX K 300 (k_W_image.drop 0) [(2, a0)] [] v 115 := h
set_option maxRecDepth 100000 in
theorem sg_W_back_0 {l : Launch} {G : zG} {d : Nat} {Q : Int → zH → Prop} {QX : Nat → zH → Prop} {K : Nat → List zV → List zV → zH → Nat → Prop} {a0 : Int} {v : zH} (h : zCL a0 = 10 ∧ zCL a0 = 10 ∧ zCL (a0 + 42) = 4 ∧ zC l G 1 d h_Pa_comeBack [(2, a0 + 42), (2, a0 + 24)] v 115 (fun r1 v1 =>
  ((r1 = 0 →
  Q ((-1)) v1) ∧
  (¬ r1 = 0 →
  zCL a0 = 10 ∧ zCL (a0 + 24) = 0 ∧ Q (v1 (a0 + 24) 8) v1)))) : zx l G 1 (d + 1) h_W_back k_W_back 115 Q QX K 300 (k_W_back.drop 0) [(2, a0)] [] v 115 := h
set_option maxRecDepth 100000 in
theorem sg_W_ahead_0 {l : Launch} {G : zG} {d : Nat} {Q : Int → zH → Prop} {QX : Nat → zH → Prop} {K : Nat → List zV → List zV → zH → Nat → Prop} {a0 a1 a2 a3 : Int} {v : zH} (h : zCL a0 = 10 ∧ v a0 10 ≠ -1000 ∧ zCL (v a0 10) = 8 ∧ zC l G 1 d h_Wa_indexOf [(2, v a0 10), (0, a1)] v 115 (fun r1 v1 =>
  ((r1 = ((-1)) →
  Q ((-1)) v1) ∧
  (¬ r1 = ((-1)) →
  zC l G 1 d h_W_within [(0, a2), (0, 1), (0, 72)] v1 115 (fun r2 v2 =>
    ((r2 = 0 →
    Q ((-1)) v2) ∧
    (¬ r2 = 0 →
    zC l G 1 d h_W_within [(0, a3), (0, 0), (0, 1)] v2 115 (fun r3 v3 =>
      ((¬ r3 = 0 →
      zCL a0 = 10 ∧ zC l G 1 d h_W_goAhead [(2, a0), (0, a2)] v3 115 (fun _ v4 =>
        ((¬ a3 = 0 →
        zCL a0 = 10 ∧ zCL (a0 + 33) = 0 ∧ zCL ((a0 + 33) + 2) = 20 ∧ (0 ≤ r1 ∧ r1 < zLN ((a0 + 33) + 2)) ∧ Q (v4 ((a0 + 33) + 2) r1) v4) ∧
        (a3 = 0 →
        zCL a0 = 10 ∧ zCL (a0 + 33) = 0 ∧ zCL ((a0 + 33) + 1) = 20 ∧ (0 ≤ r1 ∧ r1 < zLN ((a0 + 33) + 1)) ∧ Q (v4 ((a0 + 33) + 1) r1) v4)))) ∧
      (r3 = 0 →
      Q ((-1)) v3)))))))))) : zx l G 1 (d + 1) h_W_ahead k_W_ahead 115 Q QX K 300 (k_W_ahead.drop 0) [(2, a0), (0, a1), (0, a2), (0, a3), (3, 0)] [] v 115 := h
set_option maxRecDepth 100000 in
theorem sg_W_air_0 {l : Launch} {G : zG} {d : Nat} {Q : Int → zH → Prop} {QX : Nat → zH → Prop} {K : Nat → List zV → List zV → zH → Nat → Prop} {a0 a1 : Int} {v : zH} (h : zCL a0 = 10 ∧ v a0 10 ≠ -1000 ∧ zCL (v a0 10) = 8 ∧ (((v (v a0 10) 11) = 0 →
  Q ((-1)) v) ∧
  (¬ (v (v a0 10) 11) = 0 →
  zC l G 1 d h_W_within [(0, a1), (0, 1), (0, 72)] v 115 (fun r1 v1 =>
    ((¬ r1 = 0 →
    zCL a0 = 10 ∧ zCL a0 = 10 ∧ zCL (a0 + 33) = 0 ∧ zC l G 1 d h_Co_follow [(2, a0 + 33), (2, a0 + 24)] v1 115 (fun _ v2 =>
      zCL a0 = 10 ∧ zC l G 1 d h_W_airAhead [(2, a0), (0, a1)] v2 115 (fun r3 v3 =>
      Q r3 v3))) ∧
    (r1 = 0 →
    Q ((-1)) v1)))))) : zx l G 1 (d + 1) h_W_air k_W_air 115 Q QX K 300 (k_W_air.drop 0) [(2, a0), (0, a1)] [] v 115 := h
set_option maxRecDepth 100000 in
theorem sg_W_without_0 {l : Launch} {G : zG} {d : Nat} {Q : Int → zH → Prop} {QX : Nat → zH → Prop} {K : Nat → List zV → List zV → zH → Nat → Prop} {a0 a1 a2 : Int} {v : zH} (h : zCL a0 = 10 ∧ v a0 10 ≠ -1000 ∧ zCL (v a0 10) = 8 ∧ zCL ((v a0 10) + 3) = 1 ∧ zC l G 1 d h_Ki_has [(2, (v a0 10) + 3), (0, a1)] v 115 (fun r1 v1 =>
  ((r1 = 0 →
  Q ((-1000000)) v1) ∧
  (¬ r1 = 0 →
  zC l G 1 d h_W_within [(0, a2), (0, 1), (0, 72)] v1 115 (fun r2 v2 =>
    ((¬ r2 = 0 →
    zCL a0 = 10 ∧ zCL a0 = 10 ∧ zCL (a0 + 33) = 0 ∧ zC l G 1 d h_Co_follow [(2, a0 + 33), (2, a0 + 24)] v2 115 (fun _ v3 =>
      zCL a0 = 10 ∧ zC l G 1 d h_W_airAhead [(2, a0), (0, a2)] v3 115 (fun r4 v4 =>
      zCL a0 = 10 ∧ zCL a0 = 10 ∧ zCL (a0 + 33) = 0 ∧ zC l G 1 d h_Co_follow [(2, a0 + 33), (2, a0 + 24)] v4 115 (fun _ v5 =>
      zCL a0 = 10 ∧ zCL (a0 + 33) = 0 ∧ zCL ((a0 + 33) + 4) = 20 ∧ (0 ≤ a1 ∧ a1 < zLN ((a0 + 33) + 4)) ∧ zCL a0 = 10 ∧ zCL (a0 + 33) = 0 ∧ zCL ((a0 + 33) + 5) = 20 ∧ (0 ≤ a1 ∧ a1 < zLN ((a0 + 33) + 5)) ∧ zCL a0 = 10 ∧ zC l G 1 d h_W_airAhead [(2, a0), (0, a2)] (zupd (zupd v5 ((a0 + 33) + 4) a1 0) ((a0 + 33) + 5) a1 0) 115 (fun r6 v6 =>
      zI (r4 - r6) ∧ Q (r4 - r6) v6))))) ∧
    (r2 = 0 →
    Q ((-1000000)) v2))))))) : zx l G 1 (d + 1) h_W_without k_W_without 115 Q QX K 300 (k_W_without.drop 0) [(2, a0), (0, a1), (0, a2), (3, 0)] [] v 115 := h
set_option maxRecDepth 100000 in
theorem sg_W_coldest_0 {l : Launch} {G : zG} {d : Nat} {Q : Int → zH → Prop} {QX : Nat → zH → Prop} {K : Nat → List zV → List zV → zH → Nat → Prop} {a0 a1 a2 : Int} {v : zH} (h : zCL a0 = 10 ∧ v a0 10 ≠ -1000 ∧ zCL (v a0 10) = 8 ∧ (((v (v a0 10) 11) = 0 →
  Q ((-1)) v) ∧
  (¬ (v (v a0 10) 11) = 0 →
  zC l G 1 d h_W_within [(0, a1), (0, 1), (0, 72)] v 115 (fun r1 v1 =>
    ((r1 = 0 →
    Q ((-1)) v1) ∧
    (¬ r1 = 0 →
    zC l G 1 d h_W_within [(0, a2), (0, 0), (0, 1)] v1 115 (fun r2 v2 =>
      ((¬ r2 = 0 →
      zCL a0 = 10 ∧ zCL a0 = 10 ∧ zCL (a0 + 33) = 0 ∧ zC l G 1 d h_Co_follow [(2, a0 + 33), (2, a0 + 24)] v2 115 (fun _ v3 =>
        K 27 [(2, a0), (0, a1), (0, a2), (0, (-1)), (0, 0), (0, 1), (3, 0)] [] v3 115)) ∧
      (r2 = 0 →
      Q ((-1)) v2))))))))) : zx l G 1 (d + 1) h_W_coldest k_W_coldest 115 Q QX K 300 (k_W_coldest.drop 0) [(2, a0), (0, a1), (0, a2), (3, 0), (3, 0), (3, 0), (3, 0)] [] v 115 := h
set_option maxRecDepth 100000 in
theorem sg_W_coldest_27 {l : Launch} {G : zG} {d : Nat} {Q : Int → zH → Prop} {QX : Nat → zH → Prop} {K : Nat → List zV → List zV → zH → Nat → Prop} {a0 a1 a2 a3 a4 a5 : Int} {v : zH} (h : ((a1 < a5 →
  ((¬ a2 = 0 →
    Q a4 v) ∧
    (a2 = 0 →
    Q a3 v))) ∧
  (a5 ≤ a1 →
  zCL a0 = 10 ∧ zCL a0 = 10 ∧ v a0 10 ≠ -1000 ∧ zCL a0 = 10 ∧ zCL (a0 + 33) = 0 ∧ zC l G 1 d h_Co_step [(2, a0 + 33), (2, v a0 10), (2, a0 + 5)] v 115 (fun _ v1 =>
    zCL a0 = 10 ∧ zCL (a0 + 33) = 0 ∧ zCL a0 = 10 ∧ zC l G 1 d h_W_sumOf [(2, a0), (2, (a0 + 33) + 1)] v1 115 (fun r2 v2 =>
    ((a3 = ((-1)) →
    zI (a5 + 1) ∧ K 27 [(2, a0), (0, a1), (0, a2), (0, a5), (0, r2), (0, a5 + 1), (3, 0)] [] v2 115) ∧
    (¬ a3 = ((-1)) →
    ((a4 ≤ r2 →
      zI (a5 + 1) ∧ K 27 [(2, a0), (0, a1), (0, a2), (0, a3), (0, a4), (0, a5 + 1), (3, 0)] [] v2 115) ∧
      (r2 < a4 →
      zI (a5 + 1) ∧ K 27 [(2, a0), (0, a1), (0, a2), (0, a5), (0, r2), (0, a5 + 1), (3, 0)] [] v2 115))))))))) : zx l G 1 (d + 1) h_W_coldest k_W_coldest 115 Q QX K 300 (k_W_coldest.drop 27) [(2, a0), (0, a1), (0, a2), (0, a3), (0, a4), (0, a5), (3, 0)] [] v 115 := h
set_option maxRecDepth 100000 in
theorem sg_W_frost_0 {l : Launch} {G : zG} {d : Nat} {Q : Int → zH → Prop} {QX : Nat → zH → Prop} {K : Nat → List zV → List zV → zH → Nat → Prop} {a0 a1 : Int} {v : zH} (h : zCL a0 = 10 ∧ v a0 10 ≠ -1000 ∧ zCL (v a0 10) = 8 ∧ (((v (v a0 10) 11) = 0 →
  Q ((-1)) v) ∧
  (¬ (v (v a0 10) 11) = 0 →
  zC l G 1 d h_W_within [(0, a1), (0, 1), (0, 72)] v 115 (fun r1 v1 =>
    ((¬ r1 = 0 →
    zCL a0 = 10 ∧ zCL a0 = 10 ∧ zCL (a0 + 33) = 0 ∧ zC l G 1 d h_Co_follow [(2, a0 + 33), (2, a0 + 24)] v1 115 (fun _ v2 =>
      K 20 [(2, a0), (0, a1), (0, 0), (0, 1), (3, 0)] [] v2 115)) ∧
    (r1 = 0 →
    Q ((-1)) v1)))))) : zx l G 1 (d + 1) h_W_frost k_W_frost 115 Q QX K 300 (k_W_frost.drop 0) [(2, a0), (0, a1), (3, 0), (3, 0), (3, 0)] [] v 115 := h
set_option maxRecDepth 100000 in
theorem sg_W_frost_20 {l : Launch} {G : zG} {d : Nat} {Q : Int → zH → Prop} {QX : Nat → zH → Prop} {K : Nat → List zV → List zV → zH → Nat → Prop} {a0 a1 a2 a3 : Int} {v : zH} (h : ((a1 < a3 →
  zC l G 1 d h_Intg_bitCount [(0, a2)] v 115 (fun r1 v1 =>
    Q r1 v1)) ∧
  (a3 ≤ a1 →
  zCL a0 = 10 ∧ zCL a0 = 10 ∧ v a0 10 ≠ -1000 ∧ zCL a0 = 10 ∧ zCL (a0 + 33) = 0 ∧ zC l G 1 d h_Co_step [(2, a0 + 33), (2, v a0 10), (2, a0 + 5)] v 115 (fun _ v2 =>
    K 32 [(2, a0), (0, a1), (0, a2), (0, a3), (0, 0)] [] v2 115)))) : zx l G 1 (d + 1) h_W_frost k_W_frost 115 Q QX K 300 (k_W_frost.drop 20) [(2, a0), (0, a1), (0, a2), (0, a3), (3, 0)] [] v 115 := h
set_option maxRecDepth 100000 in
theorem sg_W_frost_32 {l : Launch} {G : zG} {d : Nat} {Q : Int → zH → Prop} {QX : Nat → zH → Prop} {K : Nat → List zV → List zV → zH → Nat → Prop} {a0 a1 a2 a3 a4 : Int} {v : zH} (h : zCL a0 = 10 ∧ v a0 10 ≠ -1000 ∧ zCL (v a0 10) = 8 ∧ (((v (v a0 10) 11) ≤ a4 →
  zI (a3 + 1) ∧ K 20 [(2, a0), (0, a1), (0, a2), (0, a3 + 1), (3, 0)] [] v 115) ∧
  (a4 < (v (v a0 10) 11) →
  zCL a0 = 10 ∧ zCL (a0 + 33) = 0 ∧ zCL ((a0 + 33) + 1) = 20 ∧ (0 ≤ a4 ∧ a4 < zLN ((a0 + 33) + 1)) ∧ ((¬ (v ((a0 + 33) + 1) a4) = 0 →
    zI (a4 + 1) ∧ K 32 [(2, a0), (0, a1), (0, a2), (0, a3), (0, a4 + 1)] [] v 115) ∧
    ((v ((a0 + 33) + 1) a4) = 0 →
    zI (a4 + 1) ∧ K 32 [(2, a0), (0, a1), (0, zor a2 (zshl 1 a4)), (0, a3), (0, a4 + 1)] [] v 115))))) : zx l G 1 (d + 1) h_W_frost k_W_frost 115 Q QX K 300 (k_W_frost.drop 32) [(2, a0), (0, a1), (0, a2), (0, a3), (0, a4)] [] v 115 := h
set_option maxRecDepth 100000 in
theorem sg_W_spread_0 {l : Launch} {G : zG} {d : Nat} {Q : Int → zH → Prop} {QX : Nat → zH → Prop} {K : Nat → List zV → List zV → zH → Nat → Prop} {a0 a1 : Int} {v : zH} (h : zCL a0 = 10 ∧ v a0 10 ≠ -1000 ∧ zCL (v a0 10) = 8 ∧ (((v (v a0 10) 11) = 0 →
  Q ((-1)) v) ∧
  (¬ (v (v a0 10) 11) = 0 →
  zC l G 1 d h_W_within [(0, a1), (0, 0), (0, 72)] v 115 (fun r1 v1 =>
    ((¬ r1 = 0 →
    zCL a0 = 10 ∧ zC l G 1 d h_W_goAhead [(2, a0), (0, a1)] v1 115 (fun _ v2 =>
      zCL a0 = 10 ∧ zCL (a0 + 33) = 0 ∧ zCL ((a0 + 33) + 1) = 20 ∧ (0 ≤ (0 : Int) ∧ 0 < zLN ((a0 + 33) + 1)) ∧ K 24 [(2, a0), (3, 0), (0, v2 ((a0 + 33) + 1) 0), (0, v2 ((a0 + 33) + 1) 0), (0, 1)] [] v2 115)) ∧
    (r1 = 0 →
    Q ((-1)) v1)))))) : zx l G 1 (d + 1) h_W_spread k_W_spread 115 Q QX K 300 (k_W_spread.drop 0) [(2, a0), (0, a1), (3, 0), (3, 0), (3, 0)] [] v 115 := h
set_option maxRecDepth 100000 in
theorem sg_W_spread_24 {l : Launch} {G : zG} {d : Nat} {Q : Int → zH → Prop} {QX : Nat → zH → Prop} {K : Nat → List zV → List zV → zH → Nat → Prop} {a0 a2 a3 a4 : Int} {v : zH} (h : zCL a0 = 10 ∧ v a0 10 ≠ -1000 ∧ zCL (v a0 10) = 8 ∧ (((v (v a0 10) 11) ≤ a4 →
  zI (a3 - a2) ∧ Q (a3 - a2) v) ∧
  (a4 < (v (v a0 10) 11) →
  zCL a0 = 10 ∧ zCL (a0 + 33) = 0 ∧ zCL ((a0 + 33) + 1) = 20 ∧ (0 ≤ a4 ∧ a4 < zLN ((a0 + 33) + 1)) ∧ zCL a0 = 10 ∧ zCL (a0 + 33) = 0 ∧ zCL ((a0 + 33) + 1) = 20 ∧ (0 ≤ a4 ∧ a4 < zLN ((a0 + 33) + 1)) ∧ zI (a4 + 1) ∧ K 24 [(2, a0), (3, 0), (0, min a2 (v ((a0 + 33) + 1) a4)), (0, max a3 (v ((a0 + 33) + 1) a4)), (0, a4 + 1)] [] v 115))) : zx l G 1 (d + 1) h_W_spread k_W_spread 115 Q QX K 300 (k_W_spread.drop 24) [(2, a0), (3, 0), (0, a2), (0, a3), (0, a4)] [] v 115 := h
set_option maxRecDepth 100000 in
theorem sg_W_flow_0 {l : Launch} {G : zG} {d : Nat} {Q : Int → zH → Prop} {QX : Nat → zH → Prop} {K : Nat → List zV → List zV → zH → Nat → Prop} {a0 a1 a2 a3 : Int} {v : zH} (h : zCL a0 = 10 ∧ v a0 10 ≠ -1000 ∧ zCL (v a0 10) = 8 ∧ zC l G 1 d h_Wa_indexOf [(2, v a0 10), (0, a1)] v 115 (fun r1 v1 =>
  zCL a0 = 10 ∧ v1 a0 10 ≠ -1000 ∧ zCL (v1 a0 10) = 8 ∧ zC l G 1 d h_Wa_indexOf [(2, v1 a0 10), (0, a2)] v1 115 (fun r2 v2 =>
  ((r1 = ((-1)) →
  Q ((-1)) v2) ∧
  (¬ r1 = ((-1)) →
  ((r2 = ((-1)) →
    Q ((-1)) v2) ∧
    (¬ r2 = ((-1)) →
    zCL a0 = 10 ∧ v2 a0 10 ≠ -1000 ∧ zCL (v2 a0 10) = 8 ∧ zC l G 1 d h_Wa_areBeside [(2, v2 a0 10), (0, r1), (0, r2)] v2 115 (fun r3 v3 =>
      ((r3 = 0 →
      Q ((-1)) v3) ∧
      (¬ r3 = 0 →
      zC l G 1 d h_W_within [(0, a3), (0, 1), (0, 72)] v3 115 (fun r4 v4 =>
        ((¬ r4 = 0 →
        zCL a0 = 10 ∧ zCL a0 = 10 ∧ zCL (a0 + 33) = 0 ∧ zC l G 1 d h_Co_follow [(2, a0 + 33), (2, a0 + 24)] v4 115 (fun _ v5 =>
          K 38 [(2, a0), (3, 0), (3, 0), (0, a3), (0, r1), (3, 0), (0, 0), (0, 0)] [] v5 115)) ∧
        (r4 = 0 →
        Q ((-1)) v4))))))))))))) : zx l G 1 (d + 1) h_W_flow k_W_flow 115 Q QX K 300 (k_W_flow.drop 0) [(2, a0), (0, a1), (0, a2), (0, a3), (3, 0), (3, 0), (3, 0), (3, 0)] [] v 115 := h
set_option maxRecDepth 100000 in
theorem sg_W_flow_38 {l : Launch} {G : zG} {d : Nat} {Q : Int → zH → Prop} {QX : Nat → zH → Prop} {K : Nat → List zV → List zV → zH → Nat → Prop} {a0 a3 a4 a6 a7 : Int} {v : zH} (h : ((a3 ≤ a7 →
  Q a6 v) ∧
  (a7 < a3 →
  zCL a0 = 10 ∧ zCL a0 = 10 ∧ v a0 10 ≠ -1000 ∧ zCL (a0 + 33) = 0 ∧ zC l G 1 d h_Co_givenBy [(2, a0 + 33), (0, a4), (2, v a0 10)] v 115 (fun r1 v1 =>
    zI (a6 + (r1.tdiv 4)) ∧ zCL a0 = 10 ∧ zCL a0 = 10 ∧ v1 a0 10 ≠ -1000 ∧ zCL a0 = 10 ∧ zCL (a0 + 33) = 0 ∧ zC l G 1 d h_Co_step [(2, a0 + 33), (2, v1 a0 10), (2, a0 + 5)] v1 115 (fun _ v2 =>
    zI (a7 + 1) ∧ K 38 [(2, a0), (3, 0), (3, 0), (0, a3), (0, a4), (3, 0), (0, a6 + (r1.tdiv 4)), (0, a7 + 1)] [] v2 115))))) : zx l G 1 (d + 1) h_W_flow k_W_flow 115 Q QX K 300 (k_W_flow.drop 38) [(2, a0), (3, 0), (3, 0), (0, a3), (0, a4), (3, 0), (0, a6), (0, a7)] [] v 115 := h
set_option maxRecDepth 100000 in
theorem sg_W_giver_0 {l : Launch} {G : zG} {d : Nat} {Q : Int → zH → Prop} {QX : Nat → zH → Prop} {K : Nat → List zV → List zV → zH → Nat → Prop} {a0 a1 a2 : Int} {v : zH} (h : zCL a0 = 10 ∧ v a0 10 ≠ -1000 ∧ zCL (v a0 10) = 8 ∧ (((v (v a0 10) 11) = 0 →
  Q ((-1)) v) ∧
  (¬ (v (v a0 10) 11) = 0 →
  zC l G 1 d h_W_within [(0, a1), (0, 1), (0, 72)] v 115 (fun r1 v1 =>
    ((r1 = 0 →
    Q ((-1)) v1) ∧
    (¬ r1 = 0 →
    zC l G 1 d h_W_within [(0, a2), (0, 0), (0, 1)] v1 115 (fun r2 v2 =>
      ((¬ r2 = 0 →
      zCL a0 = 10 ∧ zCL a0 = 10 ∧ zCL (a0 + 33) = 0 ∧ zC l G 1 d h_Co_follow [(2, a0 + 33), (2, a0 + 24)] v2 115 (fun _ v3 =>
        zCL a0 = 10 ∧ zC l G 1 d h_W_airAhead [(2, a0), (0, a1)] v3 115 (fun r4 v4 =>
        K 29 [(2, a0), (3, 0), (0, a2), (0, 0), (0, 1)] [] v4 115))) ∧
      (r2 = 0 →
      Q ((-1)) v2))))))))) : zx l G 1 (d + 1) h_W_giver k_W_giver 115 Q QX K 300 (k_W_giver.drop 0) [(2, a0), (0, a1), (0, a2), (3, 0), (3, 0)] [] v 115 := h
set_option maxRecDepth 100000 in
theorem sg_W_giver_29 {l : Launch} {G : zG} {d : Nat} {Q : Int → zH → Prop} {QX : Nat → zH → Prop} {K : Nat → List zV → List zV → zH → Nat → Prop} {a0 a2 a3 a4 : Int} {v : zH} (h : zCL a0 = 10 ∧ v a0 10 ≠ -1000 ∧ zCL (v a0 10) = 8 ∧ (((v (v a0 10) 11) ≤ a4 →
  ((¬ a2 = 0 →
    zCL a0 = 10 ∧ zCL (a0 + 33) = 0 ∧ zCL ((a0 + 33) + 7) = 20 ∧ (0 ≤ a3 ∧ a3 < zLN ((a0 + 33) + 7)) ∧ Q (v ((a0 + 33) + 7) a3) v) ∧
    (a2 = 0 →
    zCL a0 = 10 ∧ v a0 10 ≠ -1000 ∧ zCL (v a0 10) = 8 ∧ zC l G 1 d h_Wa_nameOf [(2, v a0 10), (0, a3)] v 115 (fun r1 v1 =>
      Q r1 v1)))) ∧
  (a4 < (v (v a0 10) 11) →
  zCL a0 = 10 ∧ zCL (a0 + 33) = 0 ∧ zCL ((a0 + 33) + 7) = 20 ∧ (0 ≤ a4 ∧ a4 < zLN ((a0 + 33) + 7)) ∧ zCL a0 = 10 ∧ zCL (a0 + 33) = 0 ∧ zCL ((a0 + 33) + 7) = 20 ∧ (0 ≤ a3 ∧ a3 < zLN ((a0 + 33) + 7)) ∧ (((v ((a0 + 33) + 7) a4) ≤ (v ((a0 + 33) + 7) a3) →
    zI (a4 + 1) ∧ K 29 [(2, a0), (3, 0), (0, a2), (0, a3), (0, a4 + 1)] [] v 115) ∧
    ((v ((a0 + 33) + 7) a3) < (v ((a0 + 33) + 7) a4) →
    zI (a4 + 1) ∧ K 29 [(2, a0), (3, 0), (0, a2), (0, a4), (0, a4 + 1)] [] v 115))))) : zx l G 1 (d + 1) h_W_giver k_W_giver 115 Q QX K 300 (k_W_giver.drop 29) [(2, a0), (3, 0), (0, a2), (0, a3), (0, a4)] [] v 115 := h
set_option maxRecDepth 100000 in
theorem sg_W_thaw_0 {l : Launch} {G : zG} {d : Nat} {Q : Int → zH → Prop} {QX : Nat → zH → Prop} {K : Nat → List zV → List zV → zH → Nat → Prop} {a0 a1 a2 : Int} {v : zH} (h : zCL a0 = 10 ∧ v a0 10 ≠ -1000 ∧ zCL (v a0 10) = 8 ∧ zC l G 1 d h_Wa_indexOf [(2, v a0 10), (0, a1)] v 115 (fun r1 v1 =>
  ((r1 = ((-1)) →
  Q ((-1)) v1) ∧
  (¬ r1 = ((-1)) →
  zC l G 1 d h_W_within [(0, a2), (0, 0), (0, 99)] v1 115 (fun r2 v2 =>
    ((¬ r2 = 0 →
    zCL a0 = 10 ∧ zCL a0 = 10 ∧ zCL (a0 + 33) = 0 ∧ zC l G 1 d h_Co_follow [(2, a0 + 33), (2, a0 + 24)] v2 115 (fun _ v3 =>
      K 22 [(2, a0), (3, 0), (0, a2), (0, r1), (0, 0)] [] v3 115)) ∧
    (r2 = 0 →
    Q ((-1)) v2))))))) : zx l G 1 (d + 1) h_W_thaw k_W_thaw 115 Q QX K 300 (k_W_thaw.drop 0) [(2, a0), (0, a1), (0, a2), (3, 0), (3, 0)] [] v 115 := h
set_option maxRecDepth 100000 in
theorem sg_W_thaw_22 {l : Launch} {G : zG} {d : Nat} {Q : Int → zH → Prop} {QX : Nat → zH → Prop} {K : Nat → List zV → List zV → zH → Nat → Prop} {a0 a2 a3 a4 : Int} {v : zH} (h : ((72 ≤ a4 →
  zCL a0 = 10 ∧ zCL (a0 + 33) = 0 ∧ zCL ((a0 + 33) + 1) = 20 ∧ (0 ≤ a3 ∧ a3 < zLN ((a0 + 33) + 1)) ∧ (((v ((a0 + 33) + 1) a3) < a2 →
    Q ((-1)) v) ∧
    (a2 ≤ (v ((a0 + 33) + 1) a3) →
    Q 72 v))) ∧
  (a4 < 72 →
  zCL a0 = 10 ∧ zCL (a0 + 33) = 0 ∧ zCL ((a0 + 33) + 1) = 20 ∧ (0 ≤ a3 ∧ a3 < zLN ((a0 + 33) + 1)) ∧ (((v ((a0 + 33) + 1) a3) < a2 →
    zCL a0 = 10 ∧ zCL a0 = 10 ∧ v a0 10 ≠ -1000 ∧ zCL a0 = 10 ∧ zCL (a0 + 33) = 0 ∧ zC l G 1 d h_Co_step [(2, a0 + 33), (2, v a0 10), (2, a0 + 5)] v 115 (fun _ v1 =>
      zI (a4 + 1) ∧ K 22 [(2, a0), (3, 0), (0, a2), (0, a3), (0, a4 + 1)] [] v1 115)) ∧
    (a2 ≤ (v ((a0 + 33) + 1) a3) →
    Q a4 v))))) : zx l G 1 (d + 1) h_W_thaw k_W_thaw 115 Q QX K 300 (k_W_thaw.drop 22) [(2, a0), (3, 0), (0, a2), (0, a3), (0, a4)] [] v 115 := h
set_option maxRecDepth 100000 in
theorem sg_W_steady_0 {l : Launch} {G : zG} {d : Nat} {Q : Int → zH → Prop} {QX : Nat → zH → Prop} {K : Nat → List zV → List zV → zH → Nat → Prop} {a0 a1 : Int} {v : zH} (h : zCL a0 = 10 ∧ v a0 10 ≠ -1000 ∧ zCL (v a0 10) = 8 ∧ (((v (v a0 10) 11) = 0 →
  Q ((-1)) v) ∧
  (¬ (v (v a0 10) 11) = 0 →
  zC l G 1 d h_W_within [(0, a1), (0, 0), (0, 1)] v 115 (fun r1 v1 =>
    ((¬ r1 = 0 →
    zCL a0 = 10 ∧ zCL a0 = 10 ∧ zCL (a0 + 33) = 0 ∧ zC l G 1 d h_Co_follow [(2, a0 + 33), (2, a0 + 24)] v1 115 (fun _ v2 =>
      K 18 [(2, a0), (0, a1), (0, 0), (3, 0), (3, 0)] [] v2 115)) ∧
    (r1 = 0 →
    Q ((-1)) v1)))))) : zx l G 1 (d + 1) h_W_steady k_W_steady 115 Q QX K 300 (k_W_steady.drop 0) [(2, a0), (0, a1), (3, 0), (3, 0), (3, 0)] [] v 115 := h
set_option maxRecDepth 100000 in
theorem sg_W_steady_18 {l : Launch} {G : zG} {d : Nat} {Q : Int → zH → Prop} {QX : Nat → zH → Prop} {K : Nat → List zV → List zV → zH → Nat → Prop} {a0 a1 a2 : Int} {v : zH} (h : ((20 < a2 →
  Q ((-1)) v) ∧
  (a2 ≤ 20 →
  K 23 [(2, a0), (0, a1), (0, a2), (0, 0), (3, 0)] [] v 115))) : zx l G 1 (d + 1) h_W_steady k_W_steady 115 Q QX K 300 (k_W_steady.drop 18) [(2, a0), (0, a1), (0, a2), (3, 0), (3, 0)] [] v 115 := h
set_option maxRecDepth 100000 in
theorem sg_W_steady_23 {l : Launch} {G : zG} {d : Nat} {Q : Int → zH → Prop} {QX : Nat → zH → Prop} {K : Nat → List zV → List zV → zH → Nat → Prop} {a0 a1 a2 a3 : Int} {v : zH} (h : zCL a0 = 10 ∧ v a0 10 ≠ -1000 ∧ zCL (v a0 10) = 8 ∧ (((v (v a0 10) 11) ≤ a3 →
  zCL a0 = 10 ∧ zC l G 1 d h_W_dayLike [(2, a0), (0, a2)] v 115 (fun r1 v1 =>
    ((r1 = ((-1)) →
    K 60 [(2, a0), (0, a1), (0, a2), (3, 0), (0, 0)] [] v1 115) ∧
    (¬ r1 = ((-1)) →
    ((¬ a1 = 0 →
      zI (a2 - r1) ∧ Q (a2 - r1) v1) ∧
      (a1 = 0 →
      Q r1 v1)))))) ∧
  (a3 < (v (v a0 10) 11) →
  zCL a0 = 10 ∧ zI (a2 * 24) ∧ zI ((a2 * 24) + a3) ∧ zCL a0 = 10 ∧ zCL (a0 + 33) = 0 ∧ zCL ((a0 + 33) + 1) = 20 ∧ (0 ≤ a3 ∧ a3 < zLN ((a0 + 33) + 1)) ∧ zCL (a0 + 50) = 20 ∧ (0 ≤ ((a2 * 24) + a3) ∧ ((a2 * 24) + a3) < zLN (a0 + 50)) ∧ zI (a3 + 1) ∧ K 23 [(2, a0), (0, a1), (0, a2), (0, a3 + 1), (3, 0)] [] (zupd v (a0 + 50) ((a2 * 24) + a3) (v ((a0 + 33) + 1) a3)) 115))) : zx l G 1 (d + 1) h_W_steady k_W_steady 115 Q QX K 300 (k_W_steady.drop 23) [(2, a0), (0, a1), (0, a2), (0, a3), (3, 0)] [] v 115 := h
set_option maxRecDepth 100000 in
theorem sg_W_steady_60 {l : Launch} {G : zG} {d : Nat} {Q : Int → zH → Prop} {QX : Nat → zH → Prop} {K : Nat → List zV → List zV → zH → Nat → Prop} {a0 a1 a2 a4 : Int} {v : zH} (h : ((24 ≤ a4 →
  zI (a2 + 1) ∧ K 18 [(2, a0), (0, a1), (0, a2 + 1), (3, 0), (3, 0)] [] v 115) ∧
  (a4 < 24 →
  zCL a0 = 10 ∧ zCL a0 = 10 ∧ v a0 10 ≠ -1000 ∧ zCL a0 = 10 ∧ zCL (a0 + 33) = 0 ∧ zC l G 1 d h_Co_step [(2, a0 + 33), (2, v a0 10), (2, a0 + 5)] v 115 (fun _ v1 =>
    zI (a4 + 1) ∧ K 60 [(2, a0), (0, a1), (0, a2), (3, 0), (0, a4 + 1)] [] v1 115)))) : zx l G 1 (d + 1) h_W_steady k_W_steady 115 Q QX K 300 (k_W_steady.drop 60) [(2, a0), (0, a1), (0, a2), (3, 0), (0, a4)] [] v 115 := h
set_option maxRecDepth 100000 in
theorem sg_W_dayLike_0 {l : Launch} {G : zG} {d : Nat} {Q : Int → zH → Prop} {QX : Nat → zH → Prop} {K : Nat → List zV → List zV → zH → Nat → Prop} {a0 a1 : Int} {v : zH} (h : K 2 [(2, a0), (0, a1), (0, 0), (3, 0), (3, 0)] [] v 115) : zx l G 1 (d + 1) h_W_dayLike k_W_dayLike 115 Q QX K 300 (k_W_dayLike.drop 0) [(2, a0), (0, a1), (3, 0), (3, 0), (3, 0)] [] v 115 := h
set_option maxRecDepth 100000 in
theorem sg_W_dayLike_2 {l : Launch} {G : zG} {d : Nat} {Q : Int → zH → Prop} {QX : Nat → zH → Prop} {K : Nat → List zV → List zV → zH → Nat → Prop} {a0 a1 a2 : Int} {v : zH} (h : ((a1 ≤ a2 →
  Q ((-1)) v) ∧
  (a2 < a1 →
  K 9 [(2, a0), (0, a1), (0, a2), (0, 0), (0, 0)] [] v 115))) : zx l G 1 (d + 1) h_W_dayLike k_W_dayLike 115 Q QX K 300 (k_W_dayLike.drop 2) [(2, a0), (0, a1), (0, a2), (3, 0), (3, 0)] [] v 115 := h
set_option maxRecDepth 100000 in
theorem sg_W_dayLike_9 {l : Launch} {G : zG} {d : Nat} {Q : Int → zH → Prop} {QX : Nat → zH → Prop} {K : Nat → List zV → List zV → zH → Nat → Prop} {a0 a1 a2 a3 a4 : Int} {v : zH} (h : zCL a0 = 10 ∧ v a0 10 ≠ -1000 ∧ zCL (v a0 10) = 8 ∧ (((v (v a0 10) 11) ≤ a4 →
  zCL a0 = 10 ∧ v a0 10 ≠ -1000 ∧ zCL (v a0 10) = 8 ∧ ((¬ a3 = (v (v a0 10) 11) →
    zI (a2 + 1) ∧ K 2 [(2, a0), (0, a1), (0, a2 + 1), (3, 0), (3, 0)] [] v 115) ∧
    (a3 = (v (v a0 10) 11) →
    Q a2 v))) ∧
  (a4 < (v (v a0 10) 11) →
  zCL a0 = 10 ∧ zI (a2 * 24) ∧ zI ((a2 * 24) + a4) ∧ zCL (a0 + 50) = 20 ∧ (0 ≤ ((a2 * 24) + a4) ∧ ((a2 * 24) + a4) < zLN (a0 + 50)) ∧ zCL a0 = 10 ∧ zI (a1 * 24) ∧ zI ((a1 * 24) + a4) ∧ zCL (a0 + 50) = 20 ∧ (0 ≤ ((a1 * 24) + a4) ∧ ((a1 * 24) + a4) < zLN (a0 + 50)) ∧ ((¬ (v (a0 + 50) ((a2 * 24) + a4)) = (v (a0 + 50) ((a1 * 24) + a4)) →
    zI (a4 + 1) ∧ K 9 [(2, a0), (0, a1), (0, a2), (0, a3), (0, a4 + 1)] [] v 115) ∧
    ((v (a0 + 50) ((a2 * 24) + a4)) = (v (a0 + 50) ((a1 * 24) + a4)) →
    zI (a3 + 1) ∧ zI (a4 + 1) ∧ K 9 [(2, a0), (0, a1), (0, a2), (0, a3 + 1), (0, a4 + 1)] [] v 115))))) : zx l G 1 (d + 1) h_W_dayLike k_W_dayLike 115 Q QX K 300 (k_W_dayLike.drop 9) [(2, a0), (0, a1), (0, a2), (0, a3), (0, a4)] [] v 115 := h
set_option maxRecDepth 100000 in
theorem sg_W_comfort_0 {l : Launch} {G : zG} {d : Nat} {Q : Int → zH → Prop} {QX : Nat → zH → Prop} {K : Nat → List zV → List zV → zH → Nat → Prop} {a0 a1 a2 : Int} {v : zH} (h : zCL a0 = 10 ∧ v a0 10 ≠ -1000 ∧ zCL (v a0 10) = 8 ∧ zC l G 1 d h_Wa_indexOf [(2, v a0 10), (0, a2)] v 115 (fun r1 v1 =>
  ((r1 = ((-1)) →
  Q ((-1)) v1) ∧
  (¬ r1 = ((-1)) →
  zCL a0 = 10 ∧ v1 a0 10 ≠ -1000 ∧ zCL (v1 a0 10) = 8 ∧ zCL ((v1 a0 10) + 5) = 1 ∧ zC l G 1 d h_Ki_has [(2, (v1 a0 10) + 5), (0, a1)] v1 115 (fun r2 v2 =>
    ((¬ r2 = 0 →
    zCL a0 = 10 ∧ zC l G 1 d h_W_nightAhead [(2, a0)] v2 115 (fun _ v3 =>
      zCL a0 = 10 ∧ zCL (a0 + 33) = 0 ∧ zCL ((a0 + 33) + 6) = 20 ∧ (0 ≤ r1 ∧ r1 < zLN ((a0 + 33) + 6)) ∧ zCL a0 = 10 ∧ v3 a0 10 ≠ -1000 ∧ zCL (v3 a0 10) = 8 ∧ zCL ((v3 a0 10) + 5) = 1 ∧ zC l G 1 d h_Ki_number [(2, (v3 a0 10) + 5), (0, a1), (0, 1)] v3 115 (fun r4 v4 =>
      zI ((v3 ((a0 + 33) + 6) r1) + r4) ∧ Q ((v3 ((a0 + 33) + 6) r1) + r4) v4))) ∧
    (r2 = 0 →
    Q ((-1)) v2))))))) : zx l G 1 (d + 1) h_W_comfort k_W_comfort 115 Q QX K 300 (k_W_comfort.drop 0) [(2, a0), (0, a1), (0, a2), (3, 0)] [] v 115 := h
set_option maxRecDepth 100000 in
theorem sg_W_choice_0 {l : Launch} {G : zG} {d : Nat} {Q : Int → zH → Prop} {QX : Nat → zH → Prop} {K : Nat → List zV → List zV → zH → Nat → Prop} {a0 a1 : Int} {v : zH} (h : zCL a0 = 10 ∧ v a0 10 ≠ -1000 ∧ zCL (v a0 10) = 8 ∧ zCL ((v a0 10) + 5) = 1 ∧ zC l G 1 d h_Ki_has [(2, (v a0 10) + 5), (0, a1)] v 115 (fun r1 v1 =>
  ((¬ r1 = 0 →
  zCL a0 = 10 ∧ zC l G 1 d h_W_nightAhead [(2, a0)] v1 115 (fun _ v2 =>
    K 16 [(2, a0), (0, a1), (0, 0), (0, (-1)), (0, 0)] [] v2 115)) ∧
  (r1 = 0 →
  Q ((-1)) v1)))) : zx l G 1 (d + 1) h_W_choice k_W_choice 115 Q QX K 300 (k_W_choice.drop 0) [(2, a0), (0, a1), (3, 0), (3, 0), (3, 0)] [] v 115 := h
set_option maxRecDepth 100000 in
theorem sg_W_choice_16 {l : Launch} {G : zG} {d : Nat} {Q : Int → zH → Prop} {QX : Nat → zH → Prop} {K : Nat → List zV → List zV → zH → Nat → Prop} {a0 a1 a2 a3 a4 : Int} {v : zH} (h : ((a1 < a4 →
  zCL a0 = 10 ∧ v a0 10 ≠ -1000 ∧ zCL (v a0 10) = 8 ∧ zC l G 1 d h_Wa_nameOf [(2, v a0 10), (0, a3)] v 115 (fun r1 v1 =>
    Q r1 v1)) ∧
  (a4 ≤ a1 →
  zCL a0 = 10 ∧ zC l G 1 d h_W_bestFree [(2, a0), (0, a2)] v 115 (fun r2 v2 =>
    ((¬ r2 = ((-1)) →
    zI (a4 + 1) ∧ K 16 [(2, a0), (0, a1), (0, zor a2 (zshl 1 r2)), (0, r2), (0, a4 + 1)] [] v2 115) ∧
    (r2 = ((-1)) →
    Q ((-1)) v2)))))) : zx l G 1 (d + 1) h_W_choice k_W_choice 115 Q QX K 300 (k_W_choice.drop 16) [(2, a0), (0, a1), (0, a2), (0, a3), (0, a4)] [] v 115 := h
set_option maxRecDepth 100000 in
theorem sg_W_bestFree_0 {l : Launch} {G : zG} {d : Nat} {Q : Int → zH → Prop} {QX : Nat → zH → Prop} {K : Nat → List zV → List zV → zH → Nat → Prop} {a0 a1 : Int} {v : zH} (h : K 4 [(2, a0), (0, a1), (0, (-1)), (0, 0), (3, 0)] [] v 115) : zx l G 1 (d + 1) h_W_bestFree k_W_bestFree 115 Q QX K 300 (k_W_bestFree.drop 0) [(2, a0), (0, a1), (3, 0), (3, 0), (3, 0)] [] v 115 := h
set_option maxRecDepth 100000 in
theorem sg_W_bestFree_4 {l : Launch} {G : zG} {d : Nat} {Q : Int → zH → Prop} {QX : Nat → zH → Prop} {K : Nat → List zV → List zV → zH → Nat → Prop} {a0 a1 a2 a3 : Int} {v : zH} (h : zCL a0 = 10 ∧ v a0 10 ≠ -1000 ∧ zCL (v a0 10) = 8 ∧ (((v (v a0 10) 11) ≤ a3 →
  Q a2 v) ∧
  (a3 < (v (v a0 10) 11) →
  ((¬ (zand (zshr a1 a3) 1) = 0 →
    (((0 : Int) = 0 →
      zI (a3 + 1) ∧ K 4 [(2, a0), (0, a1), (0, a2), (0, a3 + 1), (3, 0)] [] v 115) ∧
      (¬ (0 : Int) = 0 →
      ((a2 = ((-1)) →
        zI (a3 + 1) ∧ K 4 [(2, a0), (0, a1), (0, a3), (0, a3 + 1), (3, 0)] [] v 115) ∧
        (¬ a2 = ((-1)) →
        zCL a0 = 10 ∧ zCL (a0 + 33) = 0 ∧ zCL ((a0 + 33) + 6) = 20 ∧ (0 ≤ a3 ∧ a3 < zLN ((a0 + 33) + 6)) ∧ zCL a0 = 10 ∧ zCL (a0 + 33) = 0 ∧ zCL ((a0 + 33) + 6) = 20 ∧ (0 ≤ a2 ∧ a2 < zLN ((a0 + 33) + 6)) ∧ (((v ((a0 + 33) + 6) a3) ≤ (v ((a0 + 33) + 6) a2) →
          zI (a3 + 1) ∧ K 4 [(2, a0), (0, a1), (0, a2), (0, a3 + 1), (3, 0)] [] v 115) ∧
          ((v ((a0 + 33) + 6) a2) < (v ((a0 + 33) + 6) a3) →
          zI (a3 + 1) ∧ K 4 [(2, a0), (0, a1), (0, a3), (0, a3 + 1), (3, 0)] [] v 115))))))) ∧
    ((zand (zshr a1 a3) 1) = 0 →
    (((1 : Int) = 0 →
      zI (a3 + 1) ∧ K 4 [(2, a0), (0, a1), (0, a2), (0, a3 + 1), (3, 0)] [] v 115) ∧
      (¬ (1 : Int) = 0 →
      ((a2 = ((-1)) →
        zI (a3 + 1) ∧ K 4 [(2, a0), (0, a1), (0, a3), (0, a3 + 1), (3, 0)] [] v 115) ∧
        (¬ a2 = ((-1)) →
        zCL a0 = 10 ∧ zCL (a0 + 33) = 0 ∧ zCL ((a0 + 33) + 6) = 20 ∧ (0 ≤ a3 ∧ a3 < zLN ((a0 + 33) + 6)) ∧ zCL a0 = 10 ∧ zCL (a0 + 33) = 0 ∧ zCL ((a0 + 33) + 6) = 20 ∧ (0 ≤ a2 ∧ a2 < zLN ((a0 + 33) + 6)) ∧ (((v ((a0 + 33) + 6) a3) ≤ (v ((a0 + 33) + 6) a2) →
          zI (a3 + 1) ∧ K 4 [(2, a0), (0, a1), (0, a2), (0, a3 + 1), (3, 0)] [] v 115) ∧
          ((v ((a0 + 33) + 6) a2) < (v ((a0 + 33) + 6) a3) →
          zI (a3 + 1) ∧ K 4 [(2, a0), (0, a1), (0, a3), (0, a3 + 1), (3, 0)] [] v 115))))))))))) : zx l G 1 (d + 1) h_W_bestFree k_W_bestFree 115 Q QX K 300 (k_W_bestFree.drop 4) [(2, a0), (0, a1), (0, a2), (0, a3), (3, 0)] [] v 115 := h
set_option maxRecDepth 100000 in
theorem sg_W_most_0 {l : Launch} {G : zG} {d : Nat} {Q : Int → zH → Prop} {QX : Nat → zH → Prop} {K : Nat → List zV → List zV → zH → Nat → Prop} {a0 a1 : Int} {v : zH} (h : zCL a0 = 10 ∧ v a0 10 ≠ -1000 ∧ zCL (v a0 10) = 8 ∧ (((v (v a0 10) 11) = 0 →
  Q ((-1)) v) ∧
  (¬ (v (v a0 10) 11) = 0 →
  zC l G 1 d h_W_within [(0, a1), (0, 0), (0, 1)] v 115 (fun r1 v1 =>
    ((¬ r1 = 0 →
    zCL a0 = 10 ∧ zC l G 1 d h_W_nightAhead [(2, a0)] v1 115 (fun _ v2 =>
      K 17 [(2, a0), (0, a1), (0, 0), (0, 1)] [] v2 115)) ∧
    (r1 = 0 →
    Q ((-1)) v1)))))) : zx l G 1 (d + 1) h_W_most k_W_most 115 Q QX K 300 (k_W_most.drop 0) [(2, a0), (0, a1), (3, 0), (3, 0)] [] v 115 := h
set_option maxRecDepth 100000 in
theorem sg_W_most_17 {l : Launch} {G : zG} {d : Nat} {Q : Int → zH → Prop} {QX : Nat → zH → Prop} {K : Nat → List zV → List zV → zH → Nat → Prop} {a0 a1 a2 a3 : Int} {v : zH} (h : zCL a0 = 10 ∧ v a0 10 ≠ -1000 ∧ zCL (v a0 10) = 8 ∧ zCL ((v a0 10) + 5) = 1 ∧ (((zshl 1 (v ((v a0 10) + 5) 6)) ≤ a3 →
  ((¬ a1 = 0 →
    Q a2 v) ∧
    (a1 = 0 →
    zC l G 1 d h_Intg_bitCount [(0, a2)] v 115 (fun r1 v1 =>
      Q r1 v1)))) ∧
  (a3 < (zshl 1 (v ((v a0 10) + 5) 6)) →
  zC l G 1 d h_Intg_bitCount [(0, a3)] v 115 (fun r2 v2 =>
    zC l G 1 d h_Intg_bitCount [(0, a2)] v2 115 (fun r3 v3 =>
    ((r2 < r3 →
    zI (a3 + 1) ∧ K 17 [(2, a0), (0, a1), (0, a2), (0, a3 + 1)] [] v3 115) ∧
    (r3 ≤ r2 →
    zCL a0 = 10 ∧ zC l G 1 d h_W_allSleepWarm [(2, a0), (0, a3)] v3 115 (fun r4 v4 =>
      ((r4 = 0 →
      zI (a3 + 1) ∧ K 17 [(2, a0), (0, a1), (0, a2), (0, a3 + 1)] [] v4 115) ∧
      (¬ r4 = 0 →
      zI (a3 + 1) ∧ K 17 [(2, a0), (0, a1), (0, a3), (0, a3 + 1)] [] v4 115)))))))))) : zx l G 1 (d + 1) h_W_most k_W_most 115 Q QX K 300 (k_W_most.drop 17) [(2, a0), (0, a1), (0, a2), (0, a3)] [] v 115 := h
set_option maxRecDepth 100000 in
theorem sg_W_allSleepWarm_0 {l : Launch} {G : zG} {d : Nat} {Q : Int → zH → Prop} {QX : Nat → zH → Prop} {K : Nat → List zV → List zV → zH → Nat → Prop} {a0 a1 : Int} {v : zH} (h : K 2 [(2, a0), (0, a1), (0, 0)] [] v 115) : zx l G 1 (d + 1) h_W_allSleepWarm k_W_allSleepWarm 115 Q QX K 300 (k_W_allSleepWarm.drop 0) [(2, a0), (0, a1), (3, 0)] [] v 115 := h
set_option maxRecDepth 100000 in
theorem sg_W_allSleepWarm_2 {l : Launch} {G : zG} {d : Nat} {Q : Int → zH → Prop} {QX : Nat → zH → Prop} {K : Nat → List zV → List zV → zH → Nat → Prop} {a0 a1 a2 : Int} {v : zH} (h : zCL a0 = 10 ∧ v a0 10 ≠ -1000 ∧ zCL (v a0 10) = 8 ∧ zCL ((v a0 10) + 5) = 1 ∧ (((v ((v a0 10) + 5) 6) ≤ a2 →
  ((1 : Int) = 0 ∨ (1 : Int) = 1) ∧ Q 1 v) ∧
  (a2 < (v ((v a0 10) + 5) 6) →
  ((¬ (zand (zshr a1 a2) 1) = 1 →
    zI (a2 + 1) ∧ K 2 [(2, a0), (0, a1), (0, a2 + 1)] [] v 115) ∧
    ((zand (zshr a1 a2) 1) = 1 →
    zCL a0 = 10 ∧ zC l G 1 d h_W_askedBy [(2, a0), (0, a2)] v 115 (fun r1 v1 =>
      zCL a0 = 10 ∧ zC l G 1 d h_W_warmCells [(2, a0), (0, r1)] v1 115 (fun r2 v2 =>
      zCL a0 = 10 ∧ zC l G 1 d h_W_askedBy [(2, a0), (0, a2)] v2 115 (fun r3 v3 =>
      zCL a0 = 10 ∧ zC l G 1 d h_W_sleepersWhoAsk [(2, a0), (0, r3), (0, a1)] v3 115 (fun r4 v4 =>
      ((r4 ≤ r2 →
      zI (a2 + 1) ∧ K 2 [(2, a0), (0, a1), (0, a2 + 1)] [] v4 115) ∧
      (r2 < r4 →
      ((0 : Int) = 0 ∨ (0 : Int) = 1) ∧ Q 0 v4))))))))))) : zx l G 1 (d + 1) h_W_allSleepWarm k_W_allSleepWarm 115 Q QX K 300 (k_W_allSleepWarm.drop 2) [(2, a0), (0, a1), (0, a2)] [] v 115 := h
set_option maxRecDepth 100000 in
theorem sg_W_askedBy_0 {l : Launch} {G : zG} {d : Nat} {Q : Int → zH → Prop} {QX : Nat → zH → Prop} {K : Nat → List zV → List zV → zH → Nat → Prop} {a0 a1 : Int} {v : zH} (h : zCL a0 = 10 ∧ v a0 10 ≠ -1000 ∧ zCL (v a0 10) = 8 ∧ zCL ((v a0 10) + 5) = 1 ∧ zC l G 1 d h_Ki_number [(2, (v a0 10) + 5), (0, a1), (0, 0)] v 115 (fun r1 v1 =>
  zCL a0 = 10 ∧ v1 a0 10 ≠ -1000 ∧ zCL (v1 a0 10) = 8 ∧ zCL ((v1 a0 10) + 5) = 1 ∧ zC l G 1 d h_Ki_number [(2, (v1 a0 10) + 5), (0, a1), (0, 1)] v1 115 (fun r2 v2 =>
  zI (r1 - r2) ∧ Q (r1 - r2) v2))) : zx l G 1 (d + 1) h_W_askedBy k_W_askedBy 115 Q QX K 300 (k_W_askedBy.drop 0) [(2, a0), (0, a1)] [] v 115 := h
set_option maxRecDepth 100000 in
theorem sg_W_sleepersWhoAsk_0 {l : Launch} {G : zG} {d : Nat} {Q : Int → zH → Prop} {QX : Nat → zH → Prop} {K : Nat → List zV → List zV → zH → Nat → Prop} {a0 a1 a2 : Int} {v : zH} (h : K 4 [(2, a0), (0, a1), (0, a2), (0, 0), (0, 0)] [] v 115) : zx l G 1 (d + 1) h_W_sleepersWhoAsk k_W_sleepersWhoAsk 115 Q QX K 300 (k_W_sleepersWhoAsk.drop 0) [(2, a0), (0, a1), (0, a2), (3, 0), (3, 0)] [] v 115 := h
set_option maxRecDepth 100000 in
theorem sg_W_sleepersWhoAsk_4 {l : Launch} {G : zG} {d : Nat} {Q : Int → zH → Prop} {QX : Nat → zH → Prop} {K : Nat → List zV → List zV → zH → Nat → Prop} {a0 a1 a2 a3 a4 : Int} {v : zH} (h : zCL a0 = 10 ∧ v a0 10 ≠ -1000 ∧ zCL (v a0 10) = 8 ∧ zCL ((v a0 10) + 5) = 1 ∧ (((v ((v a0 10) + 5) 6) ≤ a4 →
  Q a3 v) ∧
  (a4 < (v ((v a0 10) + 5) 6) →
  ((¬ (zand (zshr a2 a4) 1) = 1 →
    zI (a4 + 1) ∧ K 4 [(2, a0), (0, a1), (0, a2), (0, a3), (0, a4 + 1)] [] v 115) ∧
    ((zand (zshr a2 a4) 1) = 1 →
    zCL a0 = 10 ∧ zC l G 1 d h_W_askedBy [(2, a0), (0, a4)] v 115 (fun r1 v1 =>
      ((r1 < a1 →
      zI (a4 + 1) ∧ K 4 [(2, a0), (0, a1), (0, a2), (0, a3), (0, a4 + 1)] [] v1 115) ∧
      (a1 ≤ r1 →
      zI (a3 + 1) ∧ zI (a4 + 1) ∧ K 4 [(2, a0), (0, a1), (0, a2), (0, a3 + 1), (0, a4 + 1)] [] v1 115)))))))) : zx l G 1 (d + 1) h_W_sleepersWhoAsk k_W_sleepersWhoAsk 115 Q QX K 300 (k_W_sleepersWhoAsk.drop 4) [(2, a0), (0, a1), (0, a2), (0, a3), (0, a4)] [] v 115 := h
set_option maxRecDepth 100000 in
theorem sg_W_warmCells_0 {l : Launch} {G : zG} {d : Nat} {Q : Int → zH → Prop} {QX : Nat → zH → Prop} {K : Nat → List zV → List zV → zH → Nat → Prop} {a0 a1 : Int} {v : zH} (h : K 4 [(2, a0), (0, a1), (0, 0), (0, 0)] [] v 115) : zx l G 1 (d + 1) h_W_warmCells k_W_warmCells 115 Q QX K 300 (k_W_warmCells.drop 0) [(2, a0), (0, a1), (3, 0), (3, 0)] [] v 115 := h
set_option maxRecDepth 100000 in
theorem sg_W_warmCells_4 {l : Launch} {G : zG} {d : Nat} {Q : Int → zH → Prop} {QX : Nat → zH → Prop} {K : Nat → List zV → List zV → zH → Nat → Prop} {a0 a1 a2 a3 : Int} {v : zH} (h : zCL a0 = 10 ∧ v a0 10 ≠ -1000 ∧ zCL (v a0 10) = 8 ∧ (((v (v a0 10) 11) ≤ a3 →
  Q a2 v) ∧
  (a3 < (v (v a0 10) 11) →
  zCL a0 = 10 ∧ zCL (a0 + 33) = 0 ∧ zCL ((a0 + 33) + 6) = 20 ∧ (0 ≤ a3 ∧ a3 < zLN ((a0 + 33) + 6)) ∧ (((v ((a0 + 33) + 6) a3) < a1 →
    zI (a3 + 1) ∧ K 4 [(2, a0), (0, a1), (0, a2), (0, a3 + 1)] [] v 115) ∧
    (a1 ≤ (v ((a0 + 33) + 6) a3) →
    zI (a2 + 1) ∧ zI (a3 + 1) ∧ K 4 [(2, a0), (0, a1), (0, a2 + 1), (0, a3 + 1)] [] v 115))))) : zx l G 1 (d + 1) h_W_warmCells k_W_warmCells 115 Q QX K 300 (k_W_warmCells.drop 4) [(2, a0), (0, a1), (0, a2), (0, a3)] [] v 115 := h
set_option maxRecDepth 100000 in
theorem sg_W_timing_0 {l : Launch} {G : zG} {d : Nat} {Q : Int → zH → Prop} {QX : Nat → zH → Prop} {K : Nat → List zV → List zV → zH → Nat → Prop} {a0 a1 a2 a3 : Int} {v : zH} (h : zCL a0 = 10 ∧ v a0 10 ≠ -1000 ∧ zCL (v a0 10) = 8 ∧ zC l G 1 d h_Wa_indexOf [(2, v a0 10), (0, a2)] v 115 (fun r1 v1 =>
  ((r1 = ((-1)) →
  Q ((-1)) v1) ∧
  (¬ r1 = ((-1)) →
  zCL a0 = 10 ∧ v1 a0 10 ≠ -1000 ∧ zCL (v1 a0 10) = 8 ∧ zCL ((v1 a0 10) + 3) = 1 ∧ zC l G 1 d h_Ki_has [(2, (v1 a0 10) + 3), (0, a1)] v1 115 (fun r2 v2 =>
    ((r2 = 0 →
    Q ((-1)) v2) ∧
    (¬ r2 = 0 →
    zC l G 1 d h_W_within [(0, a3), (0, 0), (0, 1)] v2 115 (fun r3 v3 =>
      ((¬ r3 = 0 →
      zCL a0 = 10 ∧ zCL (a0 + 24) = 0 ∧ zCL ((a0 + 24) + 5) = 20 ∧ (0 ≤ a1 ∧ a1 < zLN ((a0 + 24) + 5)) ∧ zCL a0 = 10 ∧ zCL (a0 + 24) = 0 ∧ zCL ((a0 + 24) + 4) = 20 ∧ (0 ≤ a1 ∧ a1 < zLN ((a0 + 24) + 4)) ∧ zI ((v3 ((a0 + 24) + 5) a1) - (v3 ((a0 + 24) + 4) a1)) ∧ zI (((v3 ((a0 + 24) + 5) a1) - (v3 ((a0 + 24) + 4) a1)) + 24) ∧ K 41 [(2, a0), (0, a1), (3, 0), (0, a3), (0, r1), (0, ((v3 ((a0 + 24) + 5) a1) - (v3 ((a0 + 24) + 4) a1)) + 24), (0, (-1)), (0, 0), (0, 0)] [] v3 115) ∧
      (r3 = 0 →
      Q ((-1)) v3)))))))))) : zx l G 1 (d + 1) h_W_timing k_W_timing 115 Q QX K 300 (k_W_timing.drop 0) [(2, a0), (0, a1), (0, a2), (0, a3), (3, 0), (3, 0), (3, 0), (3, 0), (3, 0)] [] v 115 := h
set_option maxRecDepth 100000 in
theorem sg_W_timing_41 {l : Launch} {G : zG} {d : Nat} {Q : Int → zH → Prop} {QX : Nat → zH → Prop} {K : Nat → List zV → List zV → zH → Nat → Prop} {a0 a1 a3 a4 a5 a6 a7 a8 : Int} {v : zH} (h : ((24 ≤ a8 →
  ((¬ a3 = 0 →
    Q a7 v) ∧
    (a3 = 0 →
    Q a6 v))) ∧
  (a8 < 24 →
  zCL a0 = 10 ∧ zCL a0 = 10 ∧ zCL (a0 + 33) = 0 ∧ zC l G 1 d h_Co_follow [(2, a0 + 33), (2, a0 + 24)] v 115 (fun _ v1 =>
    zCL a0 = 10 ∧ zCL (a0 + 33) = 0 ∧ zCL ((a0 + 33) + 4) = 20 ∧ (0 ≤ a1 ∧ a1 < zLN ((a0 + 33) + 4)) ∧ zCL a0 = 10 ∧ zCL (a0 + 33) = 0 ∧ zI (a8 + a5) ∧ zCL ((a0 + 33) + 5) = 20 ∧ (0 ≤ a1 ∧ a1 < zLN ((a0 + 33) + 5)) ∧ zCL a0 = 10 ∧ zCL a0 = 10 ∧ (zupd (zupd v1 ((a0 + 33) + 4) a1 a8) ((a0 + 33) + 5) a1 ((a8 + a5).tmod 24)) a0 10 ≠ -1000 ∧ zCL a0 = 10 ∧ zCL (a0 + 33) = 0 ∧ zC l G 1 d h_Co_sleep [(2, a0 + 33), (2, (zupd (zupd v1 ((a0 + 33) + 4) a1 a8) ((a0 + 33) + 5) a1 ((a8 + a5).tmod 24)) a0 10), (2, a0 + 5)] (zupd (zupd v1 ((a0 + 33) + 4) a1 a8) ((a0 + 33) + 5) a1 ((a8 + a5).tmod 24)) 115 (fun _ v2 =>
    ((a6 = ((-1)) →
    zCL a0 = 10 ∧ zCL (a0 + 33) = 0 ∧ zCL ((a0 + 33) + 6) = 20 ∧ (0 ≤ a4 ∧ a4 < zLN ((a0 + 33) + 6)) ∧ zI (a8 + 1) ∧ K 41 [(2, a0), (0, a1), (3, 0), (0, a3), (0, a4), (0, a5), (0, a8), (0, v2 ((a0 + 33) + 6) a4), (0, a8 + 1)] [] v2 115) ∧
    (¬ a6 = ((-1)) →
    zCL a0 = 10 ∧ zCL (a0 + 33) = 0 ∧ zCL ((a0 + 33) + 6) = 20 ∧ (0 ≤ a4 ∧ a4 < zLN ((a0 + 33) + 6)) ∧ (((v2 ((a0 + 33) + 6) a4) ≤ a7 →
      zI (a8 + 1) ∧ K 41 [(2, a0), (0, a1), (3, 0), (0, a3), (0, a4), (0, a5), (0, a6), (0, a7), (0, a8 + 1)] [] v2 115) ∧
      (a7 < (v2 ((a0 + 33) + 6) a4) →
      zCL a0 = 10 ∧ zCL (a0 + 33) = 0 ∧ zCL ((a0 + 33) + 6) = 20 ∧ (0 ≤ a4 ∧ a4 < zLN ((a0 + 33) + 6)) ∧ zI (a8 + 1) ∧ K 41 [(2, a0), (0, a1), (3, 0), (0, a3), (0, a4), (0, a5), (0, a8), (0, v2 ((a0 + 33) + 6) a4), (0, a8 + 1)] [] v2 115))))))))) : zx l G 1 (d + 1) h_W_timing k_W_timing 115 Q QX K 300 (k_W_timing.drop 41) [(2, a0), (0, a1), (3, 0), (0, a3), (0, a4), (0, a5), (0, a6), (0, a7), (0, a8)] [] v 115 := h
set_option maxRecDepth 100000 in
theorem sg_W_changed_0 {l : Launch} {G : zG} {d : Nat} {Q : Int → zH → Prop} {QX : Nat → zH → Prop} {K : Nat → List zV → List zV → zH → Nat → Prop} {a0 a1 a2 a3 : Int} {v : zH} (h : zCL a0 = 10 ∧ v a0 10 ≠ -1000 ∧ zCL (v a0 10) = 8 ∧ zC l G 1 d h_Wa_indexOf [(2, v a0 10), (0, a1)] v 115 (fun r1 v1 =>
  ((r1 = ((-1)) →
  Q ((-1)) v1) ∧
  (¬ r1 = ((-1)) →
  zC l G 1 d h_W_within [(0, a2), (0, 1), (0, 72)] v1 115 (fun r2 v2 =>
    ((r2 = 0 →
    Q ((-1)) v2) ∧
    (¬ r2 = 0 →
    zC l G 1 d h_W_within [(0, a3), (0, 0), (0, 1)] v2 115 (fun r3 v3 =>
      ((¬ r3 = 0 →
      K 26 [(2, a0), (3, 0), (0, a2), (0, a3), (0, r1), (0, (-1)), (0, (-1)), (0, 0), (3, 0), (3, 0)] [] v3 115) ∧
      (r3 = 0 →
      Q ((-1)) v3)))))))))) : zx l G 1 (d + 1) h_W_changed k_W_changed 115 Q QX K 300 (k_W_changed.drop 0) [(2, a0), (0, a1), (0, a2), (0, a3), (3, 0), (3, 0), (3, 0), (3, 0), (3, 0), (3, 0)] [] v 115 := h
set_option maxRecDepth 100000 in
theorem sg_W_changed_26 {l : Launch} {G : zG} {d : Nat} {Q : Int → zH → Prop} {QX : Nat → zH → Prop} {K : Nat → List zV → List zV → zH → Nat → Prop} {a0 a2 a3 a4 a5 a6 a7 : Int} {v : zH} (h : zCL a0 = 10 ∧ v a0 10 ≠ -1000 ∧ zCL (v a0 10) = 8 ∧ (((v (v a0 10) 11) ≤ a7 →
  ((¬ a3 = 0 →
    Q a6 v) ∧
    (a3 = 0 →
    Q a5 v))) ∧
  (a7 < (v (v a0 10) 11) →
  K 33 [(2, a0), (3, 0), (0, a2), (0, a3), (0, a4), (0, a5), (0, a6), (0, a7), (0, 0), (3, 0)] [] v 115))) : zx l G 1 (d + 1) h_W_changed k_W_changed 115 Q QX K 300 (k_W_changed.drop 26) [(2, a0), (3, 0), (0, a2), (0, a3), (0, a4), (0, a5), (0, a6), (0, a7), (3, 0), (3, 0)] [] v 115 := h
set_option maxRecDepth 100000 in
theorem sg_W_changed_33 {l : Launch} {G : zG} {d : Nat} {Q : Int → zH → Prop} {QX : Nat → zH → Prop} {K : Nat → List zV → List zV → zH → Nat → Prop} {a0 a2 a3 a4 a5 a6 a7 a8 : Int} {v : zH} (h : zCL a0 = 10 ∧ v a0 10 ≠ -1000 ∧ zCL (v a0 10) = 8 ∧ zCL ((v a0 10) + 1) = 1 ∧ (((v ((v a0 10) + 1) 6) ≤ a8 →
  zI (a7 + 1) ∧ K 26 [(2, a0), (3, 0), (0, a2), (0, a3), (0, a4), (0, a5), (0, a6), (0, a7 + 1), (3, 0), (3, 0)] [] v 115) ∧
  (a8 < (v ((v a0 10) + 1) 6) →
  zCL a0 = 10 ∧ zCL a0 = 10 ∧ zCL (a0 + 33) = 0 ∧ zC l G 1 d h_Co_follow [(2, a0 + 33), (2, a0 + 24)] v 115 (fun _ v1 =>
    zCL a0 = 10 ∧ zCL a0 = 10 ∧ v1 a0 10 ≠ -1000 ∧ zCL (a0 + 33) = 0 ∧ zC l G 1 d h_Co_change [(2, a0 + 33), (0, a7), (0, a8), (2, v1 a0 10)] v1 115 (fun _ v2 =>
    K 53 [(2, a0), (3, 0), (0, a2), (0, a3), (0, a4), (0, a5), (0, a6), (0, a7), (0, a8), (0, 0)] [] v2 115))))) : zx l G 1 (d + 1) h_W_changed k_W_changed 115 Q QX K 300 (k_W_changed.drop 33) [(2, a0), (3, 0), (0, a2), (0, a3), (0, a4), (0, a5), (0, a6), (0, a7), (0, a8), (3, 0)] [] v 115 := h
set_option maxRecDepth 100000 in
theorem sg_W_changed_53 {l : Launch} {G : zG} {d : Nat} {Q : Int → zH → Prop} {QX : Nat → zH → Prop} {K : Nat → List zV → List zV → zH → Nat → Prop} {a0 a2 a3 a4 a5 a6 a7 a8 a9 : Int} {v : zH} (h : ((a2 ≤ a9 →
  zCL a0 = 10 ∧ zCL (a0 + 33) = 0 ∧ zCL ((a0 + 33) + 2) = 20 ∧ (0 ≤ a4 ∧ a4 < zLN ((a0 + 33) + 2)) ∧ (((v ((a0 + 33) + 2) a4) ≤ a6 →
    zI (a8 + 1) ∧ K 33 [(2, a0), (3, 0), (0, a2), (0, a3), (0, a4), (0, a5), (0, a6), (0, a7), (0, a8 + 1), (3, 0)] [] v 115) ∧
    (a6 < (v ((a0 + 33) + 2) a4) →
    zCL a0 = 10 ∧ v a0 10 ≠ -1000 ∧ zCL (v a0 10) = 8 ∧ zC l G 1 d h_Wa_nameOf [(2, v a0 10), (0, a7)] v 115 (fun r1 v1 =>
      zI (10 * r1) ∧ zI ((10 * r1) + a8) ∧ zCL a0 = 10 ∧ zCL (a0 + 33) = 0 ∧ zCL ((a0 + 33) + 2) = 20 ∧ (0 ≤ a4 ∧ a4 < zLN ((a0 + 33) + 2)) ∧ zI (a8 + 1) ∧ K 33 [(2, a0), (3, 0), (0, a2), (0, a3), (0, a4), (0, (10 * r1) + a8), (0, v1 ((a0 + 33) + 2) a4), (0, a7), (0, a8 + 1), (3, 0)] [] v1 115)))) ∧
  (a9 < a2 →
  zCL a0 = 10 ∧ zCL a0 = 10 ∧ v a0 10 ≠ -1000 ∧ zCL a0 = 10 ∧ zCL (a0 + 33) = 0 ∧ zC l G 1 d h_Co_step [(2, a0 + 33), (2, v a0 10), (2, a0 + 5)] v 115 (fun _ v2 =>
    zI (a9 + 1) ∧ K 53 [(2, a0), (3, 0), (0, a2), (0, a3), (0, a4), (0, a5), (0, a6), (0, a7), (0, a8), (0, a9 + 1)] [] v2 115)))) : zx l G 1 (d + 1) h_W_changed k_W_changed 115 Q QX K 300 (k_W_changed.drop 53) [(2, a0), (3, 0), (0, a2), (0, a3), (0, a4), (0, a5), (0, a6), (0, a7), (0, a8), (0, a9)] [] v 115 := h
set_option maxRecDepth 100000 in
theorem sg_W_laid_0 {l : Launch} {G : zG} {d : Nat} {Q : Int → zH → Prop} {QX : Nat → zH → Prop} {K : Nat → List zV → List zV → zH → Nat → Prop} {a0 a1 : Int} {v : zH} (h : zCL a0 = 10 ∧ v a0 10 ≠ -1000 ∧ zCL (v a0 10) = 8 ∧ (((v (v a0 10) 11) = 0 →
  Q ((-1000000)) v) ∧
  (¬ (v (v a0 10) 11) = 0 →
  zCL a0 = 10 ∧ v a0 10 ≠ -1000 ∧ zCL (v a0 10) = 8 ∧ ((6 < (v (v a0 10) 11) →
    Q ((-1000000)) v) ∧
    ((v (v a0 10) 11) ≤ 6 →
    zCL a0 = 10 ∧ v a0 10 ≠ -1000 ∧ zCL (v a0 10) = 8 ∧ zCL ((v a0 10) + 1) = 1 ∧ ((3 < (v ((v a0 10) + 1) 6) →
      Q ((-1000000)) v) ∧
      ((v ((v a0 10) + 1) 6) ≤ 3 →
      zC l G 1 d h_W_within [(0, a1), (0, 0), (0, 1)] v 115 (fun r1 v1 =>
        ((¬ r1 = 0 →
        K 26 [(2, a0), (0, a1), (0, 1), (0, 0), (3, 0), (3, 0), (3, 0), (3, 0)] [] v1 115) ∧
        (r1 = 0 →
        Q ((-1000000)) v1)))))))))) : zx l G 1 (d + 1) h_W_laid k_W_laid 115 Q QX K 300 (k_W_laid.drop 0) [(2, a0), (0, a1), (3, 0), (3, 0), (3, 0), (3, 0), (3, 0), (3, 0)] [] v 115 := h
set_option maxRecDepth 100000 in
theorem sg_W_laid_26 {l : Launch} {G : zG} {d : Nat} {Q : Int → zH → Prop} {QX : Nat → zH → Prop} {K : Nat → List zV → List zV → zH → Nat → Prop} {a0 a1 a2 a3 : Int} {v : zH} (h : zCL a0 = 10 ∧ v a0 10 ≠ -1000 ∧ zCL (v a0 10) = 8 ∧ (((v (v a0 10) 11) ≤ a3 →
  K 46 [(2, a0), (0, a1), (0, a2), (0, (-1000000)), (0, (-1)), (0, 0), (3, 0), (3, 0)] [] v 115) ∧
  (a3 < (v (v a0 10) 11) →
  zCL a0 = 10 ∧ v a0 10 ≠ -1000 ∧ zCL (v a0 10) = 8 ∧ zCL ((v a0 10) + 1) = 1 ∧ zI (a2 * (v ((v a0 10) + 1) 6)) ∧ zI (a3 + 1) ∧ K 26 [(2, a0), (0, a1), (0, a2 * (v ((v a0 10) + 1) 6)), (0, a3 + 1), (3, 0), (3, 0), (3, 0), (3, 0)] [] v 115))) : zx l G 1 (d + 1) h_W_laid k_W_laid 115 Q QX K 300 (k_W_laid.drop 26) [(2, a0), (0, a1), (0, a2), (0, a3), (3, 0), (3, 0), (3, 0), (3, 0)] [] v 115 := h
set_option maxRecDepth 100000 in
theorem sg_W_laid_46 {l : Launch} {G : zG} {d : Nat} {Q : Int → zH → Prop} {QX : Nat → zH → Prop} {K : Nat → List zV → List zV → zH → Nat → Prop} {a0 a1 a2 a3 a4 a5 : Int} {v : zH} (h : ((a2 ≤ a5 →
  ((¬ a1 = 0 →
    Q a4 v) ∧
    (a1 = 0 →
    Q a3 v))) ∧
  (a5 < a2 →
  zCL a0 = 10 ∧ zCL a0 = 10 ∧ zCL (a0 + 33) = 0 ∧ zC l G 1 d h_Co_follow [(2, a0 + 33), (2, a0 + 24)] v 115 (fun _ v1 =>
    zCL a0 = 10 ∧ zC l G 1 d h_W_layAnew [(2, a0), (0, a5)] v1 115 (fun r2 v2 =>
    zCL a0 = 10 ∧ zCL a0 = 10 ∧ v2 a0 10 ≠ -1000 ∧ zCL a0 = 10 ∧ zCL (a0 + 33) = 0 ∧ zC l G 1 d h_Co_sleep [(2, a0 + 33), (2, v2 a0 10), (2, a0 + 5)] v2 115 (fun _ v3 =>
    zCL a0 = 10 ∧ zC l G 1 d h_W_leastOfAll [(2, a0)] v3 115 (fun r4 v4 =>
    ((r4 ≤ a4 →
    zI (a5 + 1) ∧ K 46 [(2, a0), (0, a1), (0, a2), (0, a3), (0, a4), (0, a5 + 1), (3, 0), (3, 0)] [] v4 115) ∧
    (a4 < r4 →
    zI (a5 + 1) ∧ K 46 [(2, a0), (0, a1), (0, a2), (0, r2), (0, r4), (0, a5 + 1), (3, 0), (3, 0)] [] v4 115))))))))) : zx l G 1 (d + 1) h_W_laid k_W_laid 115 Q QX K 300 (k_W_laid.drop 46) [(2, a0), (0, a1), (0, a2), (0, a3), (0, a4), (0, a5), (3, 0), (3, 0)] [] v 115 := h
set_option maxRecDepth 100000 in
theorem sg_W_layAnew_0 {l : Launch} {G : zG} {d : Nat} {Q : Int → zH → Prop} {QX : Nat → zH → Prop} {K : Nat → List zV → List zV → zH → Nat → Prop} {a0 a1 : Int} {v : zH} (h : zCL a0 = 10 ∧ v a0 10 ≠ -1000 ∧ zCL (v a0 10) = 8 ∧ zI ((v (v a0 10) 11) - 1) ∧ K 12 [(2, a0), (3, 0), (0, a1), (0, 0), (0, 1), (0, (v (v a0 10) 11) - 1), (3, 0), (3, 0)] [] v 115) : zx l G 1 (d + 1) h_W_layAnew k_W_layAnew 115 Q QX K 300 (k_W_layAnew.drop 0) [(2, a0), (0, a1), (3, 0), (3, 0), (3, 0), (3, 0), (3, 0), (3, 0)] [] v 115 := h
set_option maxRecDepth 100000 in
theorem sg_W_layAnew_12 {l : Launch} {G : zG} {d : Nat} {Q : Int → zH → Prop} {QX : Nat → zH → Prop} {K : Nat → List zV → List zV → zH → Nat → Prop} {a0 a2 a3 a4 a5 : Int} {v : zH} (h : ((a5 < 0 →
  Q a3 v) ∧
  (0 ≤ a5 →
  zCL a0 = 10 ∧ v a0 10 ≠ -1000 ∧ zCL (v a0 10) = 8 ∧ zCL ((v a0 10) + 1) = 1 ∧ ¬ (max 1 (v ((v a0 10) + 1) 6)) = 0 ∧ zI (a2.tdiv (max 1 (v ((v a0 10) + 1) 6))) ∧ ¬ (max 1 (v ((v a0 10) + 1) 6)) = 0 ∧ zI (a2.tdiv (max 1 (v ((v a0 10) + 1) 6))) ∧ zCL a0 = 10 ∧ zCL (a0 + 33) = 0 ∧ zCL ((a0 + 33) + 3) = 20 ∧ (0 ≤ a5 ∧ a5 < zLN ((a0 + 33) + 3)) ∧ zCL a0 = 10 ∧ zCL (a0 + 33) = 0 ∧ zCL ((a0 + 33) + 1) = 20 ∧ (0 ≤ a5 ∧ a5 < zLN ((a0 + 33) + 1)) ∧ zI ((a2.tmod (max 1 (v ((v a0 10) + 1) 6))) + 1) ∧ zI (a4 * ((a2.tmod (max 1 (v ((v a0 10) + 1) 6))) + 1)) ∧ zI (a3 + (a4 * ((a2.tmod (max 1 (v ((v a0 10) + 1) 6))) + 1))) ∧ zI (a4 * 10) ∧ zI (a5 + (-1)) ∧ K 12 [(2, a0), (3, 0), (0, a2.tdiv (max 1 (v ((v a0 10) + 1) 6))), (0, a3 + (a4 * ((a2.tmod (max 1 (v ((v a0 10) + 1) 6))) + 1))), (0, a4 * 10), (0, a5 + (-1)), (3, 0), (3, 0)] [] (zupd (zupd v ((a0 + 33) + 3) a5 (a2.tmod (max 1 (v ((v a0 10) + 1) 6)))) ((a0 + 33) + 1) a5 0) 115))) : zx l G 1 (d + 1) h_W_layAnew k_W_layAnew 115 Q QX K 300 (k_W_layAnew.drop 12) [(2, a0), (3, 0), (0, a2), (0, a3), (0, a4), (0, a5), (3, 0), (3, 0)] [] v 115 := h
set_option maxRecDepth 100000 in
theorem sg_W_leastOfAll_0 {l : Launch} {G : zG} {d : Nat} {Q : Int → zH → Prop} {QX : Nat → zH → Prop} {K : Nat → List zV → List zV → zH → Nat → Prop} {a0 : Int} {v : zH} (h : zCL a0 = 10 ∧ zCL (a0 + 33) = 0 ∧ zCL ((a0 + 33) + 6) = 20 ∧ (0 ≤ (0 : Int) ∧ 0 < zLN ((a0 + 33) + 6)) ∧ K 8 [(2, a0), (0, v ((a0 + 33) + 6) 0), (0, 1)] [] v 115) : zx l G 1 (d + 1) h_W_leastOfAll k_W_leastOfAll 115 Q QX K 300 (k_W_leastOfAll.drop 0) [(2, a0), (3, 0), (3, 0)] [] v 115 := h
set_option maxRecDepth 100000 in
theorem sg_W_leastOfAll_8 {l : Launch} {G : zG} {d : Nat} {Q : Int → zH → Prop} {QX : Nat → zH → Prop} {K : Nat → List zV → List zV → zH → Nat → Prop} {a0 a1 a2 : Int} {v : zH} (h : zCL a0 = 10 ∧ v a0 10 ≠ -1000 ∧ zCL (v a0 10) = 8 ∧ (((v (v a0 10) 11) ≤ a2 →
  Q a1 v) ∧
  (a2 < (v (v a0 10) 11) →
  zCL a0 = 10 ∧ zCL (a0 + 33) = 0 ∧ zCL ((a0 + 33) + 6) = 20 ∧ (0 ≤ a2 ∧ a2 < zLN ((a0 + 33) + 6)) ∧ zI (a2 + 1) ∧ K 8 [(2, a0), (0, min a1 (v ((a0 + 33) + 6) a2)), (0, a2 + 1)] [] v 115))) : zx l G 1 (d + 1) h_W_leastOfAll k_W_leastOfAll 115 Q QX K 300 (k_W_leastOfAll.drop 8) [(2, a0), (0, a1), (0, a2)] [] v 115 := h
set_option maxRecDepth 100000 in
theorem sg_W_touched_0 {l : Launch} {G : zG} {d : Nat} {Q : Int → zH → Prop} {QX : Nat → zH → Prop} {K : Nat → List zV → List zV → zH → Nat → Prop} {a0 a1 a2 a3 : Int} {v : zH} (h : zCL a0 = 10 ∧ v a0 10 ≠ -1000 ∧ zCL (v a0 10) = 8 ∧ zC l G 1 d h_Wa_indexOf [(2, v a0 10), (0, a1)] v 115 (fun r1 v1 =>
  ((r1 = ((-1)) →
  Q ((-1)) v1) ∧
  (¬ r1 = ((-1)) →
  zC l G 1 d h_W_within [(0, a2), (0, 0), (0, 48)] v1 115 (fun r2 v2 =>
    ((r2 = 0 →
    Q ((-1)) v2) ∧
    (¬ r2 = 0 →
    zC l G 1 d h_W_within [(0, a3), (0, 0), (0, 99)] v2 115 (fun r3 v3 =>
      ((¬ r3 = 0 →
      zCL a0 = 10 ∧ zCL (a0 + 45) = 7 ∧ zC l G 1 d h_To_tell [(2, a0 + 45), (0, r1), (0, a2), (0, a3)] v3 115 (fun r4 v4 =>
        ((r4 = 0 →
        Q ((-1)) v4) ∧
        (¬ r4 = 0 →
        zCL a0 = 10 ∧ zCL (a0 + 45) = 7 ∧ Q (v4 (a0 + 45) 3) v4)))) ∧
      (r3 = 0 →
      Q ((-1)) v3)))))))))) : zx l G 1 (d + 1) h_W_touched k_W_touched 115 Q QX K 300 (k_W_touched.drop 0) [(2, a0), (0, a1), (0, a2), (0, a3), (3, 0)] [] v 115 := h
set_option maxRecDepth 100000 in
theorem sg_W_fits_0 {l : Launch} {G : zG} {d : Nat} {Q : Int → zH → Prop} {QX : Nat → zH → Prop} {K : Nat → List zV → List zV → zH → Nat → Prop} {a0 a1 : Int} {v : zH} (h : zCL a0 = 10 ∧ v a0 10 ≠ -1000 ∧ zCL (v a0 10) = 8 ∧ zC l G 1 d h_Wa_indexOf [(2, v a0 10), (0, a1)] v 115 (fun r1 v1 =>
  ((¬ r1 = ((-1)) →
  zCL a0 = 10 ∧ zC l G 1 d h_W_sortsThatFit [(2, a0), (0, r1)] v1 115 (fun r2 v2 =>
    Q r2 v2)) ∧
  (r1 = ((-1)) →
  Q ((-1)) v1)))) : zx l G 1 (d + 1) h_W_fits k_W_fits 115 Q QX K 300 (k_W_fits.drop 0) [(2, a0), (0, a1), (3, 0)] [] v 115 := h
set_option maxRecDepth 100000 in
theorem sg_W_sortsThatFit_0 {l : Launch} {G : zG} {d : Nat} {Q : Int → zH → Prop} {QX : Nat → zH → Prop} {K : Nat → List zV → List zV → zH → Nat → Prop} {a0 a1 : Int} {v : zH} (h : K 4 [(2, a0), (0, a1), (0, 0), (0, 0)] [] v 115) : zx l G 1 (d + 1) h_W_sortsThatFit k_W_sortsThatFit 115 Q QX K 300 (k_W_sortsThatFit.drop 0) [(2, a0), (0, a1), (3, 0), (3, 0)] [] v 115 := h
set_option maxRecDepth 100000 in
theorem sg_W_sortsThatFit_4 {l : Launch} {G : zG} {d : Nat} {Q : Int → zH → Prop} {QX : Nat → zH → Prop} {K : Nat → List zV → List zV → zH → Nat → Prop} {a0 a1 a2 a3 : Int} {v : zH} (h : zCL a0 = 10 ∧ v a0 10 ≠ -1000 ∧ zCL (v a0 10) = 8 ∧ zCL ((v a0 10) + 1) = 1 ∧ (((v ((v a0 10) + 1) 6) ≤ a3 →
  Q a2 v) ∧
  (a3 < (v ((v a0 10) + 1) 6) →
  zCL a0 = 10 ∧ zC l G 1 d h_W_isLikeTouches [(2, a0), (0, a1), (0, a3)] v 115 (fun r1 v1 =>
    ((r1 = 0 →
    zI (a3 + 1) ∧ K 4 [(2, a0), (0, a1), (0, a2), (0, a3 + 1)] [] v1 115) ∧
    (¬ r1 = 0 →
    zI (a3 + 1) ∧ K 4 [(2, a0), (0, a1), (0, zor a2 (zshl 1 a3)), (0, a3 + 1)] [] v1 115)))))) : zx l G 1 (d + 1) h_W_sortsThatFit k_W_sortsThatFit 115 Q QX K 300 (k_W_sortsThatFit.drop 4) [(2, a0), (0, a1), (0, a2), (0, a3)] [] v 115 := h
set_option maxRecDepth 100000 in
theorem sg_W_isLikeTouches_0 {l : Launch} {G : zG} {d : Nat} {Q : Int → zH → Prop} {QX : Nat → zH → Prop} {K : Nat → List zV → List zV → zH → Nat → Prop} {a0 a1 a2 : Int} {v : zH} (h : zCL a0 = 10 ∧ zCL (a0 + 45) = 7 ∧ zC l G 1 d h_To_lastHour [(2, a0 + 45)] v 115 (fun r1 v1 =>
  zCL a0 = 10 ∧ zCL a0 = 10 ∧ zCL (a0 + 33) = 0 ∧ zC l G 1 d h_Co_follow [(2, a0 + 33), (2, a0 + 24)] v1 115 (fun _ v2 =>
  zCL a0 = 10 ∧ zCL a0 = 10 ∧ v2 a0 10 ≠ -1000 ∧ zCL (a0 + 33) = 0 ∧ zC l G 1 d h_Co_change [(2, a0 + 33), (0, a1), (0, a2), (2, v2 a0 10)] v2 115 (fun _ v3 =>
  K 18 [(2, a0), (3, 0), (3, 0), (0, r1), (0, 0)] [] v3 115)))) : zx l G 1 (d + 1) h_W_isLikeTouches k_W_isLikeTouches 115 Q QX K 300 (k_W_isLikeTouches.drop 0) [(2, a0), (0, a1), (0, a2), (3, 0), (3, 0)] [] v 115 := h
set_option maxRecDepth 100000 in
theorem sg_W_isLikeTouches_18 {l : Launch} {G : zG} {d : Nat} {Q : Int → zH → Prop} {QX : Nat → zH → Prop} {K : Nat → List zV → List zV → zH → Nat → Prop} {a0 a3 a4 : Int} {v : zH} (h : ((a3 ≤ a4 →
  zCL a0 = 10 ∧ zCL a0 = 10 ∧ zCL (a0 + 33) = 0 ∧ zCL (a0 + 45) = 7 ∧ zC l G 1 d h_To_allowAt [(2, a0 + 45), (0, a3), (2, (a0 + 33) + 1)] v 115 (fun r1 v1 =>
    (r1 = 0 ∨ r1 = 1) ∧ Q r1 v1)) ∧
  (a4 < a3 →
  zCL a0 = 10 ∧ zCL a0 = 10 ∧ zCL (a0 + 33) = 0 ∧ zCL (a0 + 45) = 7 ∧ zC l G 1 d h_To_allowAt [(2, a0 + 45), (0, a4), (2, (a0 + 33) + 1)] v 115 (fun r2 v2 =>
    ((¬ r2 = 0 →
    zCL a0 = 10 ∧ zCL a0 = 10 ∧ v2 a0 10 ≠ -1000 ∧ zCL a0 = 10 ∧ zCL (a0 + 33) = 0 ∧ zC l G 1 d h_Co_step [(2, a0 + 33), (2, v2 a0 10), (2, a0 + 5)] v2 115 (fun _ v3 =>
      zI (a4 + 1) ∧ K 18 [(2, a0), (3, 0), (3, 0), (0, a3), (0, a4 + 1)] [] v3 115)) ∧
    (r2 = 0 →
    ((0 : Int) = 0 ∨ (0 : Int) = 1) ∧ Q 0 v2)))))) : zx l G 1 (d + 1) h_W_isLikeTouches k_W_isLikeTouches 115 Q QX K 300 (k_W_isLikeTouches.drop 18) [(2, a0), (3, 0), (3, 0), (0, a3), (0, a4)] [] v 115 := h
set_option maxRecDepth 100000 in
theorem sg_W_touch_0 {l : Launch} {G : zG} {d : Nat} {Q : Int → zH → Prop} {QX : Nat → zH → Prop} {K : Nat → List zV → List zV → zH → Nat → Prop} {a0 a1 a2 a3 : Int} {v : zH} (h : zCL a0 = 10 ∧ v a0 10 ≠ -1000 ∧ zCL (v a0 10) = 8 ∧ zC l G 1 d h_Wa_indexOf [(2, v a0 10), (0, a1)] v 115 (fun r1 v1 =>
  ((r1 = ((-1)) →
  Q ((-1)) v1) ∧
  (¬ r1 = ((-1)) →
  zC l G 1 d h_W_within [(0, a2), (0, 0), (0, 24)] v1 115 (fun r2 v2 =>
    ((r2 = 0 →
    Q ((-1)) v2) ∧
    (¬ r2 = 0 →
    zC l G 1 d h_W_within [(0, a3), (0, 0), (0, 1)] v2 115 (fun r3 v3 =>
      ((¬ r3 = 0 →
      zCL a0 = 10 ∧ zC l G 1 d h_W_sortsThatFit [(2, a0), (0, r1)] v3 115 (fun r4 v4 =>
        ((¬ r4 = 0 →
        K 30 [(2, a0), (3, 0), (0, a2), (0, a3), (0, r1), (0, r4), (0, 0), (3, 0), (3, 0), (3, 0), (3, 0)] [] v4 115) ∧
        (r4 = 0 →
        Q ((-1)) v4)))) ∧
      (r3 = 0 →
      Q ((-1)) v3)))))))))) : zx l G 1 (d + 1) h_W_touch k_W_touch 115 Q QX K 300 (k_W_touch.drop 0) [(2, a0), (0, a1), (0, a2), (0, a3), (3, 0), (3, 0), (3, 0), (3, 0), (3, 0), (3, 0), (3, 0)] [] v 115 := h
set_option maxRecDepth 100000 in
theorem sg_W_touch_30 {l : Launch} {G : zG} {d : Nat} {Q : Int → zH → Prop} {QX : Nat → zH → Prop} {K : Nat → List zV → List zV → zH → Nat → Prop} {a0 a2 a3 a4 a5 a6 : Int} {v : zH} (h : zCL a0 = 10 ∧ v a0 10 ≠ -1000 ∧ zCL (v a0 10) = 8 ∧ zCL ((v a0 10) + 1) = 1 ∧ (((v ((v a0 10) + 1) 6) ≤ a6 →
  K 56 [(2, a0), (3, 0), (0, a2), (0, a3), (3, 0), (0, a5), (0, (-1)), (0, 0), (0, 0), (3, 0), (3, 0)] [] v 115) ∧
  (a6 < (v ((v a0 10) + 1) 6) →
  ((¬ (zand (zshr a5 a6) 1) = 1 →
    zI (a6 + 1) ∧ K 30 [(2, a0), (3, 0), (0, a2), (0, a3), (0, a4), (0, a5), (0, a6 + 1), (3, 0), (3, 0), (3, 0), (3, 0)] [] v 115) ∧
    ((zand (zshr a5 a6) 1) = 1 →
    zCL a0 = 10 ∧ zC l G 1 d h_W_tryOut [(2, a0), (0, a4), (0, a6), (0, a2)] v 115 (fun _ v1 =>
      zI (a6 + 1) ∧ K 30 [(2, a0), (3, 0), (0, a2), (0, a3), (0, a4), (0, a5), (0, a6 + 1), (3, 0), (3, 0), (3, 0), (3, 0)] [] v1 115)))))) : zx l G 1 (d + 1) h_W_touch k_W_touch 115 Q QX K 300 (k_W_touch.drop 30) [(2, a0), (3, 0), (0, a2), (0, a3), (0, a4), (0, a5), (0, a6), (3, 0), (3, 0), (3, 0), (3, 0)] [] v 115 := h
set_option maxRecDepth 100000 in
theorem sg_W_touch_56 {l : Launch} {G : zG} {d : Nat} {Q : Int → zH → Prop} {QX : Nat → zH → Prop} {K : Nat → List zV → List zV → zH → Nat → Prop} {a0 a2 a3 a5 a6 a7 a8 : Int} {v : zH} (h : ((a2 < a8 →
  ((¬ a3 = 0 →
    Q a7 v) ∧
    (a3 = 0 →
    Q a6 v))) ∧
  (a8 ≤ a2 →
  K 61 [(2, a0), (3, 0), (0, a2), (0, a3), (3, 0), (0, a5), (0, a6), (0, a7), (0, a8), (0, 0), (3, 0)] [] v 115))) : zx l G 1 (d + 1) h_W_touch k_W_touch 115 Q QX K 300 (k_W_touch.drop 56) [(2, a0), (3, 0), (0, a2), (0, a3), (3, 0), (0, a5), (0, a6), (0, a7), (0, a8), (3, 0), (3, 0)] [] v 115 := h
set_option maxRecDepth 100000 in
theorem sg_W_touch_61 {l : Launch} {G : zG} {d : Nat} {Q : Int → zH → Prop} {QX : Nat → zH → Prop} {K : Nat → List zV → List zV → zH → Nat → Prop} {a0 a2 a3 a5 a6 a7 a8 a9 : Int} {v : zH} (h : zCL a0 = 10 ∧ v a0 10 ≠ -1000 ∧ zCL (v a0 10) = 8 ∧ (((v (v a0 10) 11) ≤ a9 →
  zI (a8 + 1) ∧ K 56 [(2, a0), (3, 0), (0, a2), (0, a3), (3, 0), (0, a5), (0, a6), (0, a7), (0, a8 + 1), (3, 0), (3, 0)] [] v 115) ∧
  (a9 < (v (v a0 10) 11) →
  zCL a0 = 10 ∧ zC l G 1 d h_W_unlikeWarmths [(2, a0), (0, a5), (0, a8), (0, a9)] v 115 (fun r1 v1 =>
    ((r1 ≤ a7 →
    zI (a9 + 1) ∧ K 61 [(2, a0), (3, 0), (0, a2), (0, a3), (3, 0), (0, a5), (0, a6), (0, a7), (0, a8), (0, a9 + 1), (3, 0)] [] v1 115) ∧
    (a7 < r1 →
    zI (100 * a8) ∧ zCL a0 = 10 ∧ v1 a0 10 ≠ -1000 ∧ zCL (v1 a0 10) = 8 ∧ zC l G 1 d h_Wa_nameOf [(2, v1 a0 10), (0, a9)] v1 115 (fun r2 v2 =>
      zI ((100 * a8) + r2) ∧ zI (a9 + 1) ∧ K 61 [(2, a0), (3, 0), (0, a2), (0, a3), (3, 0), (0, a5), (0, (100 * a8) + r2), (0, r1), (0, a8), (0, a9 + 1), (3, 0)] [] v2 115))))))) : zx l G 1 (d + 1) h_W_touch k_W_touch 115 Q QX K 300 (k_W_touch.drop 61) [(2, a0), (3, 0), (0, a2), (0, a3), (3, 0), (0, a5), (0, a6), (0, a7), (0, a8), (0, a9), (3, 0)] [] v 115 := h
set_option maxRecDepth 100000 in
theorem sg_W_tryOut_0 {l : Launch} {G : zG} {d : Nat} {Q : Int → zH → Prop} {QX : Nat → zH → Prop} {K : Nat → List zV → List zV → zH → Nat → Prop} {a0 a1 a2 a3 : Int} {v : zH} (h : zCL a0 = 10 ∧ zCL a0 = 10 ∧ zCL (a0 + 33) = 0 ∧ zC l G 1 d h_Co_follow [(2, a0 + 33), (2, a0 + 24)] v 115 (fun _ v1 =>
  zCL a0 = 10 ∧ zCL a0 = 10 ∧ v1 a0 10 ≠ -1000 ∧ zCL (a0 + 33) = 0 ∧ zC l G 1 d h_Co_change [(2, a0 + 33), (0, a1), (0, a2), (2, v1 a0 10)] v1 115 (fun _ v2 =>
  K 14 [(2, a0), (3, 0), (0, a2), (0, a3), (0, 0), (3, 0)] [] v2 115))) : zx l G 1 (d + 1) h_W_tryOut k_W_tryOut 115 Q QX K 300 (k_W_tryOut.drop 0) [(2, a0), (0, a1), (0, a2), (0, a3), (3, 0), (3, 0)] [] v 115 := h
set_option maxRecDepth 100000 in
theorem sg_W_tryOut_14 {l : Launch} {G : zG} {d : Nat} {Q : Int → zH → Prop} {QX : Nat → zH → Prop} {K : Nat → List zV → List zV → zH → Nat → Prop} {a0 a2 a3 a4 : Int} {v : zH} (h : ((a3 < a4 →
  Q 0 v) ∧
  (a4 ≤ a3 →
  ((a4 ≤ 0 →
    K 28 [(2, a0), (3, 0), (0, a2), (0, a3), (0, a4), (0, 0)] [] v 115) ∧
    (0 < a4 →
    zCL a0 = 10 ∧ zCL a0 = 10 ∧ v a0 10 ≠ -1000 ∧ zCL a0 = 10 ∧ zCL (a0 + 33) = 0 ∧ zC l G 1 d h_Co_step [(2, a0 + 33), (2, v a0 10), (2, a0 + 5)] v 115 (fun _ v1 =>
      K 28 [(2, a0), (3, 0), (0, a2), (0, a3), (0, a4), (0, 0)] [] v1 115)))))) : zx l G 1 (d + 1) h_W_tryOut k_W_tryOut 115 Q QX K 300 (k_W_tryOut.drop 14) [(2, a0), (3, 0), (0, a2), (0, a3), (0, a4), (3, 0)] [] v 115 := h
set_option maxRecDepth 100000 in
theorem sg_W_tryOut_28 {l : Launch} {G : zG} {d : Nat} {Q : Int → zH → Prop} {QX : Nat → zH → Prop} {K : Nat → List zV → List zV → zH → Nat → Prop} {a0 a2 a3 a4 a5 : Int} {v : zH} (h : zCL a0 = 10 ∧ v a0 10 ≠ -1000 ∧ zCL (v a0 10) = 8 ∧ (((v (v a0 10) 11) ≤ a5 →
  zI (a4 + 1) ∧ K 14 [(2, a0), (3, 0), (0, a2), (0, a3), (0, a4 + 1), (3, 0)] [] v 115) ∧
  (a5 < (v (v a0 10) 11) →
  zCL a0 = 10 ∧ zC l G 1 d h_W_trialAt [(0, a2), (0, a4), (0, a5)] v 115 (fun r1 v1 =>
    zCL a0 = 10 ∧ zCL (a0 + 33) = 0 ∧ zCL ((a0 + 33) + 1) = 20 ∧ (0 ≤ a5 ∧ a5 < zLN ((a0 + 33) + 1)) ∧ zCL (a0 + 49) = 20 ∧ (0 ≤ r1 ∧ r1 < zLN (a0 + 49)) ∧ zI (a5 + 1) ∧ K 28 [(2, a0), (3, 0), (0, a2), (0, a3), (0, a4), (0, a5 + 1)] [] (zupd v1 (a0 + 49) r1 (v1 ((a0 + 33) + 1) a5)) 115)))) : zx l G 1 (d + 1) h_W_tryOut k_W_tryOut 115 Q QX K 300 (k_W_tryOut.drop 28) [(2, a0), (3, 0), (0, a2), (0, a3), (0, a4), (0, a5)] [] v 115 := h
set_option maxRecDepth 100000 in
theorem sg_W_trialAt_0 {l : Launch} {G : zG} {d : Nat} {Q : Int → zH → Prop} {QX : Nat → zH → Prop} {K : Nat → List zV → List zV → zH → Nat → Prop} {a0 a1 a2 : Int} {v : zH} (h : zI (a0 * 25) ∧ zI ((a0 * 25) + a1) ∧ zI (((a0 * 25) + a1) * 24) ∧ zI ((((a0 * 25) + a1) * 24) + a2) ∧ Q ((((a0 * 25) + a1) * 24) + a2) v) : zx l G 1 (d + 1) h_W_trialAt k_W_trialAt 115 Q QX K 300 (k_W_trialAt.drop 0) [(0, a0), (0, a1), (0, a2)] [] v 115 := h
set_option maxRecDepth 100000 in
theorem sg_W_unlikeWarmths_0 {l : Launch} {G : zG} {d : Nat} {Q : Int → zH → Prop} {QX : Nat → zH → Prop} {K : Nat → List zV → List zV → zH → Nat → Prop} {a0 a1 a2 a3 : Int} {v : zH} (h : K 4 [(2, a0), (0, a1), (0, a2), (0, a3), (0, 0), (0, 0), (3, 0), (3, 0)] [] v 115) : zx l G 1 (d + 1) h_W_unlikeWarmths k_W_unlikeWarmths 115 Q QX K 300 (k_W_unlikeWarmths.drop 0) [(2, a0), (0, a1), (0, a2), (0, a3), (3, 0), (3, 0), (3, 0), (3, 0)] [] v 115 := h
set_option maxRecDepth 100000 in
theorem sg_W_unlikeWarmths_4 {l : Launch} {G : zG} {d : Nat} {Q : Int → zH → Prop} {QX : Nat → zH → Prop} {K : Nat → List zV → List zV → zH → Nat → Prop} {a0 a1 a2 a3 a4 a5 : Int} {v : zH} (h : zCL a0 = 10 ∧ v a0 10 ≠ -1000 ∧ zCL (v a0 10) = 8 ∧ zCL ((v a0 10) + 1) = 1 ∧ (((v ((v a0 10) + 1) 6) ≤ a5 →
  Q a4 v) ∧
  (a5 < (v ((v a0 10) + 1) 6) →
  ((¬ (zand (zshr a1 a5) 1) = 1 →
    K 23 [(2, a0), (0, a1), (0, a2), (0, a3), (0, a4), (0, a5), (0, 0), (0, 0)] [] v 115) ∧
    ((zand (zshr a1 a5) 1) = 1 →
    K 23 [(2, a0), (0, a1), (0, a2), (0, a3), (0, a4), (0, a5), (0, 1), (0, 0)] [] v 115))))) : zx l G 1 (d + 1) h_W_unlikeWarmths k_W_unlikeWarmths 115 Q QX K 300 (k_W_unlikeWarmths.drop 4) [(2, a0), (0, a1), (0, a2), (0, a3), (0, a4), (0, a5), (3, 0), (3, 0)] [] v 115 := h
set_option maxRecDepth 100000 in
theorem sg_W_unlikeWarmths_23 {l : Launch} {G : zG} {d : Nat} {Q : Int → zH → Prop} {QX : Nat → zH → Prop} {K : Nat → List zV → List zV → zH → Nat → Prop} {a0 a1 a2 a3 a4 a5 a6 a7 : Int} {v : zH} (h : ((a5 ≤ a7 →
  ((a6 = 0 →
    zI (a5 + 1) ∧ K 4 [(2, a0), (0, a1), (0, a2), (0, a3), (0, a4), (0, a5 + 1), (3, 0), (3, 0)] [] v 115) ∧
    (¬ a6 = 0 →
    zI (a4 + 1) ∧ zI (a5 + 1) ∧ K 4 [(2, a0), (0, a1), (0, a2), (0, a3), (0, a4 + 1), (0, a5 + 1), (3, 0), (3, 0)] [] v 115))) ∧
  (a7 < a5 →
  ((¬ (zand (zshr a1 a7) 1) = 1 →
    zI (a7 + 1) ∧ K 23 [(2, a0), (0, a1), (0, a2), (0, a3), (0, a4), (0, a5), (0, a6), (0, a7 + 1)] [] v 115) ∧
    ((zand (zshr a1 a7) 1) = 1 →
    zCL a0 = 10 ∧ zC l G 1 d h_W_trialAt [(0, a7), (0, a2), (0, a3)] v 115 (fun r1 v1 =>
      zCL (a0 + 49) = 20 ∧ (0 ≤ r1 ∧ r1 < zLN (a0 + 49)) ∧ zCL a0 = 10 ∧ zC l G 1 d h_W_trialAt [(0, a5), (0, a2), (0, a3)] v1 115 (fun r2 v2 =>
      zCL (a0 + 49) = 20 ∧ (0 ≤ r2 ∧ r2 < zLN (a0 + 49)) ∧ ((¬ (v1 (a0 + 49) r1) = (v2 (a0 + 49) r2) →
      zI (a7 + 1) ∧ K 23 [(2, a0), (0, a1), (0, a2), (0, a3), (0, a4), (0, a5), (0, a6), (0, a7 + 1)] [] v2 115) ∧
      ((v1 (a0 + 49) r1) = (v2 (a0 + 49) r2) →
      zI (a7 + 1) ∧ K 23 [(2, a0), (0, a1), (0, a2), (0, a3), (0, a4), (0, a5), (0, 0), (0, a7 + 1)] [] v2 115))))))))) : zx l G 1 (d + 1) h_W_unlikeWarmths k_W_unlikeWarmths 115 Q QX K 300 (k_W_unlikeWarmths.drop 23) [(2, a0), (0, a1), (0, a2), (0, a3), (0, a4), (0, a5), (0, a6), (0, a7)] [] v 115 := h
set_option maxRecDepth 100000 in
theorem sg_W_within_0 {l : Launch} {G : zG} {d : Nat} {Q : Int → zH → Prop} {QX : Nat → zH → Prop} {K : Nat → List zV → List zV → zH → Nat → Prop} {a0 a1 a2 : Int} {v : zH} (h : ((a0 < a1 →
  ((0 : Int) = 0 ∨ (0 : Int) = 1) ∧ Q 0 v) ∧
  (a1 ≤ a0 →
  ((a2 < a0 →
    ((0 : Int) = 0 ∨ (0 : Int) = 1) ∧ Q 0 v) ∧
    (a0 ≤ a2 →
    ((1 : Int) = 0 ∨ (1 : Int) = 1) ∧ Q 1 v))))) : zx l G 1 (d + 1) h_W_within k_W_within 115 Q QX K 300 (k_W_within.drop 0) [(0, a0), (0, a1), (0, a2)] [] v 115 := h
set_option maxRecDepth 100000 in
theorem sg_W_goAhead_0 {l : Launch} {G : zG} {d : Nat} {Q : Int → zH → Prop} {QX : Nat → zH → Prop} {K : Nat → List zV → List zV → zH → Nat → Prop} {a0 a1 : Int} {v : zH} (h : zCL a0 = 10 ∧ zCL a0 = 10 ∧ zCL (a0 + 33) = 0 ∧ zC l G 1 d h_Co_follow [(2, a0 + 33), (2, a0 + 24)] v 115 (fun _ v1 =>
  K 7 [(2, a0), (0, a1), (0, 0)] [] v1 115)) : zx l G 1 (d + 1) h_W_goAhead k_W_goAhead 115 Q QX K 300 (k_W_goAhead.drop 0) [(2, a0), (0, a1), (3, 0)] [] v 115 := h
set_option maxRecDepth 100000 in
theorem sg_W_goAhead_7 {l : Launch} {G : zG} {d : Nat} {Q : Int → zH → Prop} {QX : Nat → zH → Prop} {K : Nat → List zV → List zV → zH → Nat → Prop} {a0 a1 a2 : Int} {v : zH} (h : ((a1 ≤ a2 →
  Q 0 v) ∧
  (a2 < a1 →
  zCL a0 = 10 ∧ zCL a0 = 10 ∧ v a0 10 ≠ -1000 ∧ zCL a0 = 10 ∧ zCL (a0 + 33) = 0 ∧ zC l G 1 d h_Co_step [(2, a0 + 33), (2, v a0 10), (2, a0 + 5)] v 115 (fun _ v1 =>
    zI (a2 + 1) ∧ K 7 [(2, a0), (0, a1), (0, a2 + 1)] [] v1 115)))) : zx l G 1 (d + 1) h_W_goAhead k_W_goAhead 115 Q QX K 300 (k_W_goAhead.drop 7) [(2, a0), (0, a1), (0, a2)] [] v 115 := h
set_option maxRecDepth 100000 in
theorem sg_W_nightAhead_0 {l : Launch} {G : zG} {d : Nat} {Q : Int → zH → Prop} {QX : Nat → zH → Prop} {K : Nat → List zV → List zV → zH → Nat → Prop} {a0 : Int} {v : zH} (h : zCL a0 = 10 ∧ zCL a0 = 10 ∧ zCL (a0 + 33) = 0 ∧ zC l G 1 d h_Co_follow [(2, a0 + 33), (2, a0 + 24)] v 115 (fun _ v1 =>
  zCL a0 = 10 ∧ zCL a0 = 10 ∧ v1 a0 10 ≠ -1000 ∧ zCL a0 = 10 ∧ zCL (a0 + 33) = 0 ∧ zC l G 1 d h_Co_sleep [(2, a0 + 33), (2, v1 a0 10), (2, a0 + 5)] v1 115 (fun _ v2 =>
  Q 0 v2))) : zx l G 1 (d + 1) h_W_nightAhead k_W_nightAhead 115 Q QX K 300 (k_W_nightAhead.drop 0) [(2, a0)] [] v 115 := h
set_option maxRecDepth 100000 in
theorem sg_W_airAhead_0 {l : Launch} {G : zG} {d : Nat} {Q : Int → zH → Prop} {QX : Nat → zH → Prop} {K : Nat → List zV → List zV → zH → Nat → Prop} {a0 a1 : Int} {v : zH} (h : K 2 [(2, a0), (0, a1), (0, 0), (3, 0)] [] v 115) : zx l G 1 (d + 1) h_W_airAhead k_W_airAhead 115 Q QX K 300 (k_W_airAhead.drop 0) [(2, a0), (0, a1), (3, 0), (3, 0)] [] v 115 := h
set_option maxRecDepth 100000 in
theorem sg_W_airAhead_2 {l : Launch} {G : zG} {d : Nat} {Q : Int → zH → Prop} {QX : Nat → zH → Prop} {K : Nat → List zV → List zV → zH → Nat → Prop} {a0 a1 a2 : Int} {v : zH} (h : zCL a0 = 10 ∧ v a0 10 ≠ -1000 ∧ zCL (v a0 10) = 8 ∧ (((v (v a0 10) 11) ≤ a2 →
  K 17 [(2, a0), (0, a1), (0, 0), (3, 0)] [] v 115) ∧
  (a2 < (v (v a0 10) 11) →
  zCL a0 = 10 ∧ zCL (a0 + 33) = 0 ∧ zCL ((a0 + 33) + 7) = 20 ∧ (0 ≤ a2 ∧ a2 < zLN ((a0 + 33) + 7)) ∧ zI (a2 + 1) ∧ K 2 [(2, a0), (0, a1), (0, a2 + 1), (3, 0)] [] (zupd v ((a0 + 33) + 7) a2 0) 115))) : zx l G 1 (d + 1) h_W_airAhead k_W_airAhead 115 Q QX K 300 (k_W_airAhead.drop 2) [(2, a0), (0, a1), (0, a2), (3, 0)] [] v 115 := h
set_option maxRecDepth 100000 in
theorem sg_W_airAhead_17 {l : Launch} {G : zG} {d : Nat} {Q : Int → zH → Prop} {QX : Nat → zH → Prop} {K : Nat → List zV → List zV → zH → Nat → Prop} {a0 a1 a2 : Int} {v : zH} (h : ((a1 ≤ a2 →
  zCL a0 = 10 ∧ zCL (a0 + 33) = 0 ∧ zCL a0 = 10 ∧ zC l G 1 d h_W_sumOf [(2, a0), (2, (a0 + 33) + 7)] v 115 (fun r1 v1 =>
    Q r1 v1)) ∧
  (a2 < a1 →
  zCL a0 = 10 ∧ zCL a0 = 10 ∧ v a0 10 ≠ -1000 ∧ zCL a0 = 10 ∧ zCL (a0 + 33) = 0 ∧ zC l G 1 d h_Co_step [(2, a0 + 33), (2, v a0 10), (2, a0 + 5)] v 115 (fun _ v2 =>
    K 29 [(2, a0), (0, a1), (0, a2), (0, 0)] [] v2 115)))) : zx l G 1 (d + 1) h_W_airAhead k_W_airAhead 115 Q QX K 300 (k_W_airAhead.drop 17) [(2, a0), (0, a1), (0, a2), (3, 0)] [] v 115 := h
set_option maxRecDepth 100000 in
theorem sg_W_airAhead_29 {l : Launch} {G : zG} {d : Nat} {Q : Int → zH → Prop} {QX : Nat → zH → Prop} {K : Nat → List zV → List zV → zH → Nat → Prop} {a0 a1 a2 a3 : Int} {v : zH} (h : zCL a0 = 10 ∧ v a0 10 ≠ -1000 ∧ zCL (v a0 10) = 8 ∧ (((v (v a0 10) 11) ≤ a3 →
  zI (a2 + 1) ∧ K 17 [(2, a0), (0, a1), (0, a2 + 1), (3, 0)] [] v 115) ∧
  (a3 < (v (v a0 10) 11) →
  zCL a0 = 10 ∧ zCL (a0 + 33) = 0 ∧ zCL ((a0 + 33) + 7) = 20 ∧ (0 ≤ a3 ∧ a3 < zLN ((a0 + 33) + 7)) ∧ zCL a0 = 10 ∧ zCL (a0 + 33) = 0 ∧ zCL ((a0 + 33) + 2) = 20 ∧ (0 ≤ a3 ∧ a3 < zLN ((a0 + 33) + 2)) ∧ zI ((v ((a0 + 33) + 7) a3) + (v ((a0 + 33) + 2) a3)) ∧ zCL ((a0 + 33) + 7) = 20 ∧ (0 ≤ a3 ∧ a3 < zLN ((a0 + 33) + 7)) ∧ zI (a3 + 1) ∧ K 29 [(2, a0), (0, a1), (0, a2), (0, a3 + 1)] [] (zupd v ((a0 + 33) + 7) a3 ((v ((a0 + 33) + 7) a3) + (v ((a0 + 33) + 2) a3))) 115))) : zx l G 1 (d + 1) h_W_airAhead k_W_airAhead 115 Q QX K 300 (k_W_airAhead.drop 29) [(2, a0), (0, a1), (0, a2), (0, a3)] [] v 115 := h
set_option maxRecDepth 100000 in
theorem sg_W_sumOf_0 {l : Launch} {G : zG} {d : Nat} {Q : Int → zH → Prop} {QX : Nat → zH → Prop} {K : Nat → List zV → List zV → zH → Nat → Prop} {a0 a1 : Int} {v : zH} (h : K 4 [(2, a0), (2, a1), (0, 0), (0, 0)] [] v 115) : zx l G 1 (d + 1) h_W_sumOf k_W_sumOf 115 Q QX K 300 (k_W_sumOf.drop 0) [(2, a0), (2, a1), (3, 0), (3, 0)] [] v 115 := h
set_option maxRecDepth 100000 in
theorem sg_W_sumOf_4 {l : Launch} {G : zG} {d : Nat} {Q : Int → zH → Prop} {QX : Nat → zH → Prop} {K : Nat → List zV → List zV → zH → Nat → Prop} {a0 a1 a2 a3 : Int} {v : zH} (h : zCL a0 = 10 ∧ v a0 10 ≠ -1000 ∧ zCL (v a0 10) = 8 ∧ (((v (v a0 10) 11) ≤ a3 →
  Q a2 v) ∧
  (a3 < (v (v a0 10) 11) →
  (zCL a1 = 20 ∨ zCL a1 = 21) ∧ (((zLN a1) ≤ a3 →
    Q a2 v) ∧
    (a3 < (zLN a1) →
    zCL a1 = 20 ∧ (0 ≤ a3 ∧ a3 < zLN a1) ∧ zI (a2 + (v a1 a3)) ∧ zI (a3 + 1) ∧ K 4 [(2, a0), (2, a1), (0, a2 + (v a1 a3)), (0, a3 + 1)] [] v 115))))) : zx l G 1 (d + 1) h_W_sumOf k_W_sumOf 115 Q QX K 300 (k_W_sumOf.drop 4) [(2, a0), (2, a1), (0, a2), (0, a3)] [] v 115 := h
