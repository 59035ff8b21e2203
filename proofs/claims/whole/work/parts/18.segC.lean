/-! what each stretch comes to -/
set_option maxRecDepth 100000 in
theorem sg_M_in_0 {l : Launch} {G : zG} {d : Nat} {Q : Int → zH → Prop} {QX : Nat → zH → Prop} {K : Nat → List zV → List zV → zH → Nat → Prop} {a0 a1 a2 : Int} {v : zH} (h : ((a0 < a1 →
  ((0 : Int) = 0 ∨ (0 : Int) = 1) ∧ Q 0 v) ∧
  (a1 ≤ a0 →
  ((a2 < a0 →
    ((0 : Int) = 0 ∨ (0 : Int) = 1) ∧ Q 0 v) ∧
    (a0 ≤ a2 →
    ((1 : Int) = 0 ∨ (1 : Int) = 1) ∧ Q 1 v))))) : zx l G 1 (d + 1) h_M_in k_M_in 115 Q QX K 300 (k_M_in.drop 0) [(0, a0), (0, a1), (0, a2)] [] v 115 := h
set_option maxRecDepth 100000 in
theorem sg_M_has_0 {l : Launch} {G : zG} {d : Nat} {Q : Int → zH → Prop} {QX : Nat → zH → Prop} {K : Nat → List zV → List zV → zH → Nat → Prop} {a0 a1 : Int} {v : zH} (h : ((¬ (zand (zshr a0 a1) 1) = 1 →
  ((0 : Int) = 0 ∨ (0 : Int) = 1) ∧ Q 0 v) ∧
  ((zand (zshr a0 a1) 1) = 1 →
  ((1 : Int) = 0 ∨ (1 : Int) = 1) ∧ Q 1 v))) : zx l G 1 (d + 1) h_M_has k_M_has 115 Q QX K 300 (k_M_has.drop 0) [(0, a0), (0, a1)] [] v 115 := h
set_option maxRecDepth 100000 in
theorem sg_M_thrown_0 {l : Launch} {G : zG} {d : Nat} {Q : Int → zH → Prop} {QX : Nat → zH → Prop} {K : Nat → List zV → List zV → zH → Nat → Prop} {a0 : Int} {v : zH} (h : zCL a0 = 11 ∧ Q (v a0 0) v) : zx l G 1 (d + 1) h_M_thrown k_M_thrown 115 Q QX K 300 (k_M_thrown.drop 0) [(2, a0)] [] v 115 := h
set_option maxRecDepth 100000 in
theorem sg_M_byteOf_0 {l : Launch} {G : zG} {d : Nat} {Q : Int → zH → Prop} {QX : Nat → zH → Prop} {K : Nat → List zV → List zV → zH → Nat → Prop} {a0 a1 a2 a3 a4 a5 : Int} {v : zH} (h : ((4 ≤ a5 →
  ((8 ≤ a5 →
    ((12 ≤ a5 →
      ((16 ≤ a5 →
        zI (8 * (a5.tmod 4)) ∧ zI (24 - (8 * (a5.tmod 4))) ∧ Q (zand (zshr a4 (24 - (8 * (a5.tmod 4)))) 255) v) ∧
        (a5 < 16 →
        zI (8 * (a5.tmod 4)) ∧ zI (24 - (8 * (a5.tmod 4))) ∧ Q (zand (zshr a3 (24 - (8 * (a5.tmod 4)))) 255) v))) ∧
      (a5 < 12 →
      zI (8 * (a5.tmod 4)) ∧ zI (24 - (8 * (a5.tmod 4))) ∧ Q (zand (zshr a2 (24 - (8 * (a5.tmod 4)))) 255) v))) ∧
    (a5 < 8 →
    zI (8 * (a5.tmod 4)) ∧ zI (24 - (8 * (a5.tmod 4))) ∧ Q (zand (zshr a1 (24 - (8 * (a5.tmod 4)))) 255) v))) ∧
  (a5 < 4 →
  zI (8 * (a5.tmod 4)) ∧ zI (24 - (8 * (a5.tmod 4))) ∧ Q (zand (zshr a0 (24 - (8 * (a5.tmod 4)))) 255) v))) : zx l G 1 (d + 1) h_M_byteOf k_M_byteOf 115 Q QX K 300 (k_M_byteOf.drop 0) [(0, a0), (0, a1), (0, a2), (0, a3), (0, a4), (0, a5), (3, 0)] [] v 115 := h
set_option maxRecDepth 100000 in
theorem sg_M_feed_0 {l : Launch} {G : zG} {d : Nat} {Q : Int → zH → Prop} {QX : Nat → zH → Prop} {K : Nat → List zV → List zV → zH → Nat → Prop} {a0 a1 a2 a3 a4 a5 : Int} {v : zH} (h : K 4 [(2, a0), (0, a1), (0, a2), (0, a3), (0, a4), (0, a5), (0, 0), (0, 0), (3, 0)] [] v 115) : zx l G 1 (d + 1) h_M_feed k_M_feed 115 Q QX K 300 (k_M_feed.drop 0) [(2, a0), (0, a1), (0, a2), (0, a3), (0, a4), (0, a5), (3, 0), (3, 0), (3, 0)] [] v 115 := h
set_option maxRecDepth 100000 in
theorem sg_M_feed_4 {l : Launch} {G : zG} {d : Nat} {Q : Int → zH → Prop} {QX : Nat → zH → Prop} {K : Nat → List zV → List zV → zH → Nat → Prop} {a0 a1 a2 a3 a4 a5 a6 a7 : Int} {v : zH} (h : ((20 ≤ a7 →
  zCL a0 = 11 ∧ zI ((v a0 2) + a6) ∧ ((((v a0 2) + a6) ≤ 160 →
    K 33 [(2, a0), (0, a1), (0, a2), (0, a3), (0, a4), (0, a5), (3, 0), (0, 0), (3, 0)] [] v 115) ∧
    (160 < ((v a0 2) + a6) →
    Q ((-1)) v))) ∧
  (a7 < 20 →
  zC l G 1 d h_M_byteOf [(0, a1), (0, a2), (0, a3), (0, a4), (0, a5), (0, a7)] v 115 (fun r1 v1 =>
    ((r1 = 0 →
    zI (a6 + 0) ∧ zI (a7 + 1) ∧ K 4 [(2, a0), (0, a1), (0, a2), (0, a3), (0, a4), (0, a5), (0, a6 + 0), (0, a7 + 1), (3, 0)] [] v1 115) ∧
    (¬ r1 = 0 →
    zI (a6 + 1) ∧ zI (a7 + 1) ∧ K 4 [(2, a0), (0, a1), (0, a2), (0, a3), (0, a4), (0, a5), (0, a6 + 1), (0, a7 + 1), (3, 0)] [] v1 115)))))) : zx l G 1 (d + 1) h_M_feed k_M_feed 115 Q QX K 300 (k_M_feed.drop 4) [(2, a0), (0, a1), (0, a2), (0, a3), (0, a4), (0, a5), (0, a6), (0, a7), (3, 0)] [] v 115 := h
set_option maxRecDepth 100000 in
theorem sg_M_feed_33 {l : Launch} {G : zG} {d : Nat} {Q : Int → zH → Prop} {QX : Nat → zH → Prop} {K : Nat → List zV → List zV → zH → Nat → Prop} {a0 a1 a2 a3 a4 a5 a7 : Int} {v : zH} (h : ((20 ≤ a7 →
  zCL a0 = 11 ∧ Q (v a0 2) v) ∧
  (a7 < 20 →
  zC l G 1 d h_M_byteOf [(0, a1), (0, a2), (0, a3), (0, a4), (0, a5), (0, a7)] v 115 (fun r1 v1 =>
    ((r1 = 0 →
    zI (a7 + 1) ∧ K 33 [(2, a0), (0, a1), (0, a2), (0, a3), (0, a4), (0, a5), (3, 0), (0, a7 + 1), (3, 0)] [] v1 115) ∧
    (¬ r1 = 0 →
    zCL a0 = 11 ∧ zCL a0 = 11 ∧ zCL (a0 + 1) = 20 ∧ (0 ≤ (v1 a0 2) ∧ (v1 a0 2) < zLN (a0 + 1)) ∧ zCL a0 = 11 ∧ zI (((zupd v1 (a0 + 1) (v1 a0 2) r1) a0 2) + 1) ∧ zCL a0 = 11 ∧ zI (a7 + 1) ∧ K 33 [(2, a0), (0, a1), (0, a2), (0, a3), (0, a4), (0, a5), (3, 0), (0, a7 + 1), (3, 0)] [] (zupd (zupd v1 (a0 + 1) (v1 a0 2) r1) a0 2 (((zupd v1 (a0 + 1) (v1 a0 2) r1) a0 2) + 1)) 115)))))) : zx l G 1 (d + 1) h_M_feed k_M_feed 115 Q QX K 300 (k_M_feed.drop 33) [(2, a0), (0, a1), (0, a2), (0, a3), (0, a4), (0, a5), (3, 0), (0, a7), (3, 0)] [] v 115 := h
set_option maxRecDepth 100000 in
theorem sg_M_end_0 {l : Launch} {G : zG} {d : Nat} {Q : Int → zH → Prop} {QX : Nat → zH → Prop} {K : Nat → List zV → List zV → zH → Nat → Prop} {a0 a1 : Int} {v : zH} (h : ((a1 < 0 →
  ((0 : Int) = 0 ∨ (0 : Int) = 1) ∧ Q 0 v) ∧
  (0 ≤ a1 →
  zCL a0 = 11 ∧ ((a1 ≤ (v a0 2) →
    zCL a0 = 11 ∧ ((1 : Int) = 0 ∨ (1 : Int) = 1) ∧ Q 1 (zupd v a0 2 a1)) ∧
    ((v a0 2) < a1 →
    ((0 : Int) = 0 ∨ (0 : Int) = 1) ∧ Q 0 v))))) : zx l G 1 (d + 1) h_M_end k_M_end 115 Q QX K 300 (k_M_end.drop 0) [(2, a0), (0, a1)] [] v 115 := h
set_option maxRecDepth 100000 in
theorem sg_M_here_0 {l : Launch} {G : zG} {d : Nat} {Q : Int → zH → Prop} {QX : Nat → zH → Prop} {K : Nat → List zV → List zV → zH → Nat → Prop} {a0 : Int} {v : zH} (h : zCL a0 = 11 ∧ zCL a0 = 11 ∧ (((v a0 2) ≤ (v a0 3) →
  Q ((-1)) v) ∧
  ((v a0 3) < (v a0 2) →
  zCL a0 = 11 ∧ zCL a0 = 11 ∧ zCL (a0 + 1) = 20 ∧ (0 ≤ (v a0 3) ∧ (v a0 3) < zLN (a0 + 1)) ∧ Q (v (a0 + 1) (v a0 3)) v))) : zx l G 1 (d + 1) h_M_here k_M_here 115 Q QX K 300 (k_M_here.drop 0) [(2, a0)] [] v 115 := h
set_option maxRecDepth 100000 in
theorem sg_M_look_0 {l : Launch} {G : zG} {d : Nat} {Q : Int → zH → Prop} {QX : Nat → zH → Prop} {K : Nat → List zV → List zV → zH → Nat → Prop} {a0 : Int} {v : zH} (h : zCL a0 = 11 ∧ zC l G 1 d h_M_here [(2, a0)] v 115 (fun r1 v1 =>
  ((¬ r1 = 32 →
  zCL a0 = 11 ∧ zC l G 1 d h_M_here [(2, a0)] v1 115 (fun r2 v2 =>
    Q r2 v2)) ∧
  (r1 = 32 →
  zCL a0 = 11 ∧ zI ((v1 a0 3) + 1) ∧ zCL a0 = 11 ∧ K 0 [(2, a0)] [] (zupd v1 a0 3 ((v1 a0 3) + 1)) 115)))) : zx l G 1 (d + 1) h_M_look k_M_look 115 Q QX K 300 (k_M_look.drop 0) [(2, a0)] [] v 115 := h
set_option maxRecDepth 100000 in
theorem sg_M_bad_0 {l : Launch} {G : zG} {d : Nat} {Q : Int → zH → Prop} {QX : Nat → zH → Prop} {K : Nat → List zV → List zV → zH → Nat → Prop} {a0 : Int} {v : zH} (h : zCL a0 = 11 ∧ ((¬ (v a0 4) = ((-1)) →
  zCL a0 = 11 ∧ zCL a0 = 11 ∧ Q 0 (zupd v a0 4 (v a0 4))) ∧
  ((v a0 4) = ((-1)) →
  zCL a0 = 11 ∧ zCL a0 = 11 ∧ Q 0 (zupd v a0 4 (v a0 3))))) : zx l G 1 (d + 1) h_M_bad k_M_bad 115 Q QX K 300 (k_M_bad.drop 0) [(2, a0)] [] v 115 := h
set_option maxRecDepth 100000 in
theorem sg_M_isDigit_0 {l : Launch} {G : zG} {d : Nat} {Q : Int → zH → Prop} {QX : Nat → zH → Prop} {K : Nat → List zV → List zV → zH → Nat → Prop} {a0 : Int} {v : zH} (h : ((a0 < 48 →
  ((0 : Int) = 0 ∨ (0 : Int) = 1) ∧ Q 0 v) ∧
  (48 ≤ a0 →
  ((57 < a0 →
    ((0 : Int) = 0 ∨ (0 : Int) = 1) ∧ Q 0 v) ∧
    (a0 ≤ 57 →
    ((1 : Int) = 0 ∨ (1 : Int) = 1) ∧ Q 1 v))))) : zx l G 1 (d + 1) h_M_isDigit k_M_isDigit 115 Q QX K 300 (k_M_isDigit.drop 0) [(0, a0)] [] v 115 := h
set_option maxRecDepth 100000 in
theorem sg_M_put_0 {l : Launch} {G : zG} {d : Nat} {Q : Int → zH → Prop} {QX : Nat → zH → Prop} {K : Nat → List zV → List zV → zH → Nat → Prop} {a0 a1 a2 : Int} {v : zH} (h : zCL a0 = 11 ∧ zCL a0 = 11 ∧ zI (340 * (v a0 14)) ∧ zCL a0 = 11 ∧ zCL a0 = 11 ∧ zCL (a0 + 4) = 20 ∧ (0 ≤ (v a0 14) ∧ (v a0 14) < zLN (a0 + 4)) ∧ zI ((340 * (v a0 14)) + (v (a0 + 4) (v a0 14))) ∧ zCL (a0 + 2) = 20 ∧ (0 ≤ ((340 * (v a0 14)) + (v (a0 + 4) (v a0 14))) ∧ ((340 * (v a0 14)) + (v (a0 + 4) (v a0 14))) < zLN (a0 + 2)) ∧ zCL a0 = 11 ∧ zCL a0 = 11 ∧ zI (340 * ((zupd v (a0 + 2) ((340 * (v a0 14)) + (v (a0 + 4) (v a0 14))) a1) a0 14)) ∧ zCL a0 = 11 ∧ zCL a0 = 11 ∧ zCL (a0 + 4) = 20 ∧ (0 ≤ ((zupd v (a0 + 2) ((340 * (v a0 14)) + (v (a0 + 4) (v a0 14))) a1) a0 14) ∧ ((zupd v (a0 + 2) ((340 * (v a0 14)) + (v (a0 + 4) (v a0 14))) a1) a0 14) < zLN (a0 + 4)) ∧ zI ((340 * ((zupd v (a0 + 2) ((340 * (v a0 14)) + (v (a0 + 4) (v a0 14))) a1) a0 14)) + ((zupd v (a0 + 2) ((340 * (v a0 14)) + (v (a0 + 4) (v a0 14))) a1) (a0 + 4) ((zupd v (a0 + 2) ((340 * (v a0 14)) + (v (a0 + 4) (v a0 14))) a1) a0 14))) ∧ zCL (a0 + 3) = 20 ∧ (0 ≤ ((340 * ((zupd v (a0 + 2) ((340 * (v a0 14)) + (v (a0 + 4) (v a0 14))) a1) a0 14)) + ((zupd v (a0 + 2) ((340 * (v a0 14)) + (v (a0 + 4) (v a0 14))) a1) (a0 + 4) ((zupd v (a0 + 2) ((340 * (v a0 14)) + (v (a0 + 4) (v a0 14))) a1) a0 14))) ∧ ((340 * ((zupd v (a0 + 2) ((340 * (v a0 14)) + (v (a0 + 4) (v a0 14))) a1) a0 14)) + ((zupd v (a0 + 2) ((340 * (v a0 14)) + (v (a0 + 4) (v a0 14))) a1) (a0 + 4) ((zupd v (a0 + 2) ((340 * (v a0 14)) + (v (a0 + 4) (v a0 14))) a1) a0 14))) < zLN (a0 + 3)) ∧ zCL a0 = 11 ∧ zCL a0 = 11 ∧ zCL (a0 + 4) = 20 ∧ (0 ≤ ((zupd (zupd v (a0 + 2) ((340 * (v a0 14)) + (v (a0 + 4) (v a0 14))) a1) (a0 + 3) ((340 * ((zupd v (a0 + 2) ((340 * (v a0 14)) + (v (a0 + 4) (v a0 14))) a1) a0 14)) + ((zupd v (a0 + 2) ((340 * (v a0 14)) + (v (a0 + 4) (v a0 14))) a1) (a0 + 4) ((zupd v (a0 + 2) ((340 * (v a0 14)) + (v (a0 + 4) (v a0 14))) a1) a0 14))) a2) a0 14) ∧ ((zupd (zupd v (a0 + 2) ((340 * (v a0 14)) + (v (a0 + 4) (v a0 14))) a1) (a0 + 3) ((340 * ((zupd v (a0 + 2) ((340 * (v a0 14)) + (v (a0 + 4) (v a0 14))) a1) a0 14)) + ((zupd v (a0 + 2) ((340 * (v a0 14)) + (v (a0 + 4) (v a0 14))) a1) (a0 + 4) ((zupd v (a0 + 2) ((340 * (v a0 14)) + (v (a0 + 4) (v a0 14))) a1) a0 14))) a2) a0 14) < zLN (a0 + 4)) ∧ zI (((zupd (zupd v (a0 + 2) ((340 * (v a0 14)) + (v (a0 + 4) (v a0 14))) a1) (a0 + 3) ((340 * ((zupd v (a0 + 2) ((340 * (v a0 14)) + (v (a0 + 4) (v a0 14))) a1) a0 14)) + ((zupd v (a0 + 2) ((340 * (v a0 14)) + (v (a0 + 4) (v a0 14))) a1) (a0 + 4) ((zupd v (a0 + 2) ((340 * (v a0 14)) + (v (a0 + 4) (v a0 14))) a1) a0 14))) a2) (a0 + 4) ((zupd (zupd v (a0 + 2) ((340 * (v a0 14)) + (v (a0 + 4) (v a0 14))) a1) (a0 + 3) ((340 * ((zupd v (a0 + 2) ((340 * (v a0 14)) + (v (a0 + 4) (v a0 14))) a1) a0 14)) + ((zupd v (a0 + 2) ((340 * (v a0 14)) + (v (a0 + 4) (v a0 14))) a1) (a0 + 4) ((zupd v (a0 + 2) ((340 * (v a0 14)) + (v (a0 + 4) (v a0 14))) a1) a0 14))) a2) a0 14)) + 1) ∧ zCL (a0 + 4) = 20 ∧ (0 ≤ ((zupd (zupd v (a0 + 2) ((340 * (v a0 14)) + (v (a0 + 4) (v a0 14))) a1) (a0 + 3) ((340 * ((zupd v (a0 + 2) ((340 * (v a0 14)) + (v (a0 + 4) (v a0 14))) a1) a0 14)) + ((zupd v (a0 + 2) ((340 * (v a0 14)) + (v (a0 + 4) (v a0 14))) a1) (a0 + 4) ((zupd v (a0 + 2) ((340 * (v a0 14)) + (v (a0 + 4) (v a0 14))) a1) a0 14))) a2) a0 14) ∧ ((zupd (zupd v (a0 + 2) ((340 * (v a0 14)) + (v (a0 + 4) (v a0 14))) a1) (a0 + 3) ((340 * ((zupd v (a0 + 2) ((340 * (v a0 14)) + (v (a0 + 4) (v a0 14))) a1) a0 14)) + ((zupd v (a0 + 2) ((340 * (v a0 14)) + (v (a0 + 4) (v a0 14))) a1) (a0 + 4) ((zupd v (a0 + 2) ((340 * (v a0 14)) + (v (a0 + 4) (v a0 14))) a1) a0 14))) a2) a0 14) < zLN (a0 + 4)) ∧ Q 0 (zupd (zupd (zupd v (a0 + 2) ((340 * (v a0 14)) + (v (a0 + 4) (v a0 14))) a1) (a0 + 3) ((340 * ((zupd v (a0 + 2) ((340 * (v a0 14)) + (v (a0 + 4) (v a0 14))) a1) a0 14)) + ((zupd v (a0 + 2) ((340 * (v a0 14)) + (v (a0 + 4) (v a0 14))) a1) (a0 + 4) ((zupd v (a0 + 2) ((340 * (v a0 14)) + (v (a0 + 4) (v a0 14))) a1) a0 14))) a2) (a0 + 4) ((zupd (zupd v (a0 + 2) ((340 * (v a0 14)) + (v (a0 + 4) (v a0 14))) a1) (a0 + 3) ((340 * ((zupd v (a0 + 2) ((340 * (v a0 14)) + (v (a0 + 4) (v a0 14))) a1) a0 14)) + ((zupd v (a0 + 2) ((340 * (v a0 14)) + (v (a0 + 4) (v a0 14))) a1) (a0 + 4) ((zupd v (a0 + 2) ((340 * (v a0 14)) + (v (a0 + 4) (v a0 14))) a1) a0 14))) a2) a0 14) (((zupd (zupd v (a0 + 2) ((340 * (v a0 14)) + (v (a0 + 4) (v a0 14))) a1) (a0 + 3) ((340 * ((zupd v (a0 + 2) ((340 * (v a0 14)) + (v (a0 + 4) (v a0 14))) a1) a0 14)) + ((zupd v (a0 + 2) ((340 * (v a0 14)) + (v (a0 + 4) (v a0 14))) a1) (a0 + 4) ((zupd v (a0 + 2) ((340 * (v a0 14)) + (v (a0 + 4) (v a0 14))) a1) a0 14))) a2) (a0 + 4) ((zupd (zupd v (a0 + 2) ((340 * (v a0 14)) + (v (a0 + 4) (v a0 14))) a1) (a0 + 3) ((340 * ((zupd v (a0 + 2) ((340 * (v a0 14)) + (v (a0 + 4) (v a0 14))) a1) a0 14)) + ((zupd v (a0 + 2) ((340 * (v a0 14)) + (v (a0 + 4) (v a0 14))) a1) (a0 + 4) ((zupd v (a0 + 2) ((340 * (v a0 14)) + (v (a0 + 4) (v a0 14))) a1) a0 14))) a2) a0 14)) + 1))) : zx l G 1 (d + 1) h_M_put k_M_put 115 Q QX K 300 (k_M_put.drop 0) [(2, a0), (0, a1), (0, a2)] [] v 115 := h
set_option maxRecDepth 100000 in
theorem sg_M_letterOf_0 {l : Launch} {G : zG} {d : Nat} {Q : Int → zH → Prop} {QX : Nat → zH → Prop} {K : Nat → List zV → List zV → zH → Nat → Prop} {a0 : Int} {v : zH} (h : ((¬ a0 = 104 →
  ((¬ a0 = 114 →
    ((¬ a0 = 99 →
      ((¬ a0 = 100 →
        ((¬ a0 = 115 →
          Q ((-1)) v) ∧
          (a0 = 115 →
          Q 4 v))) ∧
        (a0 = 100 →
        Q 3 v))) ∧
      (a0 = 99 →
      Q 2 v))) ∧
    (a0 = 114 →
    Q 1 v))) ∧
  (a0 = 104 →
  Q 0 v))) : zx l G 1 (d + 1) h_M_letterOf k_M_letterOf 115 Q QX K 300 (k_M_letterOf.drop 0) [(0, a0)] [] v 115 := h
set_option maxRecDepth 100000 in
theorem sg_M_opens_0 {l : Launch} {G : zG} {d : Nat} {Q : Int → zH → Prop} {QX : Nat → zH → Prop} {K : Nat → List zV → List zV → zH → Nat → Prop} {a0 : Int} {v : zH} (h : zCL a0 = 11 ∧ ((¬ (v a0 5) = 6 →
  zCL a0 = 11 ∧ zI ((v a0 5) + 1) ∧ zCL a0 = 11 ∧ zCL a0 = 11 ∧ zI (((zupd v a0 5 ((v a0 5) + 1)) a0 3) + 1) ∧ zCL a0 = 11 ∧ Q 0 (zupd (zupd v a0 5 ((v a0 5) + 1)) a0 3 (((zupd v a0 5 ((v a0 5) + 1)) a0 3) + 1))) ∧
  ((v a0 5) = 6 →
  zCL a0 = 11 ∧ zC l G 1 d h_M_bad [(2, a0)] v 115 (fun _ v1 =>
    zCL a0 = 11 ∧ zI ((v1 a0 5) + 1) ∧ zCL a0 = 11 ∧ zCL a0 = 11 ∧ zI (((zupd v1 a0 5 ((v1 a0 5) + 1)) a0 3) + 1) ∧ zCL a0 = 11 ∧ Q 0 (zupd (zupd v1 a0 5 ((v1 a0 5) + 1)) a0 3 (((zupd v1 a0 5 ((v1 a0 5) + 1)) a0 3) + 1)))))) : zx l G 1 (d + 1) h_M_opens k_M_opens 115 Q QX K 300 (k_M_opens.drop 0) [(2, a0)] [] v 115 := h
set_option maxRecDepth 100000 in
theorem sg_M_closes_0 {l : Launch} {G : zG} {d : Nat} {Q : Int → zH → Prop} {QX : Nat → zH → Prop} {K : Nat → List zV → List zV → zH → Nat → Prop} {a0 a1 : Int} {v : zH} (h : zCL a0 = 11 ∧ ((¬ (v a0 4) = ((-1)) →
  zCL a0 = 11 ∧ zI ((v a0 3) + 1) ∧ zCL a0 = 11 ∧ zCL a0 = 11 ∧ zI (((zupd v a0 3 ((v a0 3) + 1)) a0 5) - 1) ∧ zCL a0 = 11 ∧ Q 0 (zupd (zupd v a0 3 ((v a0 3) + 1)) a0 5 (((zupd v a0 3 ((v a0 3) + 1)) a0 5) - 1))) ∧
  ((v a0 4) = ((-1)) →
  zCL a0 = 11 ∧ zC l G 1 d h_M_look [(2, a0)] v 115 (fun r1 v1 =>
    ((r1 = a1 →
    zCL a0 = 11 ∧ zI ((v1 a0 3) + 1) ∧ zCL a0 = 11 ∧ zCL a0 = 11 ∧ zI (((zupd v1 a0 3 ((v1 a0 3) + 1)) a0 5) - 1) ∧ zCL a0 = 11 ∧ Q 0 (zupd (zupd v1 a0 3 ((v1 a0 3) + 1)) a0 5 (((zupd v1 a0 3 ((v1 a0 3) + 1)) a0 5) - 1))) ∧
    (¬ r1 = a1 →
    zCL a0 = 11 ∧ zC l G 1 d h_M_bad [(2, a0)] v1 115 (fun _ v2 =>
      zCL a0 = 11 ∧ zI ((v2 a0 3) + 1) ∧ zCL a0 = 11 ∧ zCL a0 = 11 ∧ zI (((zupd v2 a0 3 ((v2 a0 3) + 1)) a0 5) - 1) ∧ zCL a0 = 11 ∧ Q 0 (zupd (zupd v2 a0 3 ((v2 a0 3) + 1)) a0 5 (((zupd v2 a0 3 ((v2 a0 3) + 1)) a0 5) - 1))))))))) : zx l G 1 (d + 1) h_M_closes k_M_closes 115 Q QX K 300 (k_M_closes.drop 0) [(2, a0), (0, a1)] [] v 115 := h
set_option maxRecDepth 100000 in
theorem sg_M_plainNumber_0 {l : Launch} {G : zG} {d : Nat} {Q : Int → zH → Prop} {QX : Nat → zH → Prop} {K : Nat → List zV → List zV → zH → Nat → Prop} {a0 : Int} {v : zH} (h : K 4 [(2, a0), (0, 0), (0, 0)] [] v 115) : zx l G 1 (d + 1) h_M_plainNumber k_M_plainNumber 115 Q QX K 300 (k_M_plainNumber.drop 0) [(2, a0), (3, 0), (3, 0)] [] v 115 := h
set_option maxRecDepth 100000 in
theorem sg_M_plainNumber_4 {l : Launch} {G : zG} {d : Nat} {Q : Int → zH → Prop} {QX : Nat → zH → Prop} {K : Nat → List zV → List zV → zH → Nat → Prop} {a0 a1 a2 : Int} {v : zH} (h : ((4 ≤ a2 →
  zCL a0 = 11 ∧ zC l G 1 d h_M_here [(2, a0)] v 115 (fun r1 v1 =>
    zC l G 1 d h_M_isDigit [(0, r1)] v1 115 (fun r2 v2 =>
    ((r2 = 0 →
    Q a1 v2) ∧
    (¬ r2 = 0 →
    zCL a0 = 11 ∧ zC l G 1 d h_M_bad [(2, a0)] v2 115 (fun _ v3 =>
      Q a1 v3)))))) ∧
  (a2 < 4 →
  zCL a0 = 11 ∧ zC l G 1 d h_M_here [(2, a0)] v 115 (fun r4 v4 =>
    zC l G 1 d h_M_isDigit [(0, r4)] v4 115 (fun r5 v5 =>
    ((r5 = 0 →
    zCL a0 = 11 ∧ zC l G 1 d h_M_here [(2, a0)] v5 115 (fun r6 v6 =>
      zC l G 1 d h_M_isDigit [(0, r6)] v6 115 (fun r7 v7 =>
      ((r7 = 0 →
      Q a1 v7) ∧
      (¬ r7 = 0 →
      zCL a0 = 11 ∧ zC l G 1 d h_M_bad [(2, a0)] v7 115 (fun _ v8 =>
        Q a1 v8)))))) ∧
    (¬ r5 = 0 →
    zI (10 * a1) ∧ zCL a0 = 11 ∧ zC l G 1 d h_M_here [(2, a0)] v5 115 (fun r9 v9 =>
      zI ((10 * a1) + r9) ∧ zI (((10 * a1) + r9) - 48) ∧ zCL a0 = 11 ∧ zI ((v9 a0 3) + 1) ∧ zCL a0 = 11 ∧ zI (a2 + 1) ∧ K 4 [(2, a0), (0, ((10 * a1) + r9) - 48), (0, a2 + 1)] [] (zupd v9 a0 3 ((v9 a0 3) + 1)) 115)))))))) : zx l G 1 (d + 1) h_M_plainNumber k_M_plainNumber 115 Q QX K 300 (k_M_plainNumber.drop 4) [(2, a0), (0, a1), (0, a2)] [] v 115 := h
set_option maxRecDepth 100000 in
theorem sg_M_atom_0 {l : Launch} {G : zG} {d : Nat} {Q : Int → zH → Prop} {QX : Nat → zH → Prop} {K : Nat → List zV → List zV → zH → Nat → Prop} {a0 : Int} {v : zH} (h : zCL a0 = 11 ∧ zC l G 1 d h_M_look [(2, a0)] v 115 (fun r1 v1 =>
  zC l G 1 d h_M_isDigit [(0, r1)] v1 115 (fun r2 v2 =>
  ((r2 = 0 →
  zC l G 1 d h_M_letterOf [(0, r1)] v2 115 (fun r3 v3 =>
    ((r3 = ((-1)) →
    ((¬ r1 = 91 →
      zCL a0 = 11 ∧ zC l G 1 d h_M_bad [(2, a0)] v3 115 (fun _ v4 =>
        Q 0 v4)) ∧
      (r1 = 91 →
      zCL a0 = 11 ∧ zC l G 1 d h_M_opens [(2, a0)] v3 115 (fun _ v5 =>
        zCL a0 = 11 ∧ ((¬ (v5 a0 4) = ((-1)) →
        Q 0 v5) ∧
        ((v5 a0 4) = ((-1)) →
        zCL a0 = 11 ∧ zC l G 1 d h_M_sum [(2, a0)] v5 115 (fun _ v6 =>
          zCL a0 = 11 ∧ zC l G 1 d h_M_closes [(2, a0), (0, 93)] v6 115 (fun _ v7 =>
          Q 0 v7)))))))) ∧
    (¬ r3 = ((-1)) →
    zCL a0 = 11 ∧ zI ((v3 a0 3) + 1) ∧ zCL a0 = 11 ∧ zC l G 1 d h_M_letterOf [(0, r1)] (zupd v3 a0 3 ((v3 a0 3) + 1)) 115 (fun r8 v8 =>
      zCL a0 = 11 ∧ zC l G 1 d h_M_put [(2, a0), (0, 1), (0, r8)] v8 115 (fun _ v9 =>
      Q 0 v9)))))) ∧
  (¬ r2 = 0 →
  zCL a0 = 11 ∧ zC l G 1 d h_M_plainNumber [(2, a0)] v2 115 (fun r10 v10 =>
    zCL a0 = 11 ∧ zC l G 1 d h_M_put [(2, a0), (0, 0), (0, r10)] v10 115 (fun _ v11 =>
    Q 0 v11))))))) : zx l G 1 (d + 1) h_M_atom k_M_atom 115 Q QX K 300 (k_M_atom.drop 0) [(2, a0), (3, 0)] [] v 115 := h
set_option maxRecDepth 100000 in
theorem sg_M_term_0 {l : Launch} {G : zG} {d : Nat} {Q : Int → zH → Prop} {QX : Nat → zH → Prop} {K : Nat → List zV → List zV → zH → Nat → Prop} {a0 : Int} {v : zH} (h : zCL a0 = 11 ∧ zC l G 1 d h_M_atom [(2, a0)] v 115 (fun _ v1 =>
  zCL a0 = 11 ∧ ((¬ (v1 a0 4) = ((-1)) →
  K 11 [(2, a0), (0, (-1))] [] v1 115) ∧
  ((v1 a0 4) = ((-1)) →
  zCL a0 = 11 ∧ zC l G 1 d h_M_look [(2, a0)] v1 115 (fun r2 v2 =>
    K 11 [(2, a0), (0, r2)] [] v2 115))))) : zx l G 1 (d + 1) h_M_term k_M_term 115 Q QX K 300 (k_M_term.drop 0) [(2, a0), (3, 0)] [] v 115 := h
set_option maxRecDepth 100000 in
theorem sg_M_term_11 {l : Launch} {G : zG} {d : Nat} {Q : Int → zH → Prop} {QX : Nat → zH → Prop} {K : Nat → List zV → List zV → zH → Nat → Prop} {a0 a1 : Int} {v : zH} (h : ((a1 = 42 →
  zCL a0 = 11 ∧ zI ((v a0 3) + 1) ∧ zCL a0 = 11 ∧ zCL a0 = 11 ∧ zC l G 1 d h_M_atom [(2, a0)] (zupd v a0 3 ((v a0 3) + 1)) 115 (fun _ v1 =>
    ((¬ a1 = 42 →
    zCL a0 = 11 ∧ zC l G 1 d h_M_put [(2, a0), (0, 5), (0, 0)] v1 115 (fun _ v2 =>
      zCL a0 = 11 ∧ ((¬ (v2 a0 4) = ((-1)) →
      K 11 [(2, a0), (0, (-1))] [] v2 115) ∧
      ((v2 a0 4) = ((-1)) →
      zCL a0 = 11 ∧ zC l G 1 d h_M_look [(2, a0)] v2 115 (fun r3 v3 =>
        K 11 [(2, a0), (0, r3)] [] v3 115))))) ∧
    (a1 = 42 →
    zCL a0 = 11 ∧ zC l G 1 d h_M_put [(2, a0), (0, 4), (0, 0)] v1 115 (fun _ v4 =>
      zCL a0 = 11 ∧ ((¬ (v4 a0 4) = ((-1)) →
      K 11 [(2, a0), (0, (-1))] [] v4 115) ∧
      ((v4 a0 4) = ((-1)) →
      zCL a0 = 11 ∧ zC l G 1 d h_M_look [(2, a0)] v4 115 (fun r5 v5 =>
        K 11 [(2, a0), (0, r5)] [] v5 115)))))))) ∧
  (¬ a1 = 42 →
  ((¬ a1 = 47 →
    Q 0 v) ∧
    (a1 = 47 →
    zCL a0 = 11 ∧ zI ((v a0 3) + 1) ∧ zCL a0 = 11 ∧ zCL a0 = 11 ∧ zC l G 1 d h_M_atom [(2, a0)] (zupd v a0 3 ((v a0 3) + 1)) 115 (fun _ v6 =>
      ((¬ a1 = 42 →
      zCL a0 = 11 ∧ zC l G 1 d h_M_put [(2, a0), (0, 5), (0, 0)] v6 115 (fun _ v7 =>
        zCL a0 = 11 ∧ ((¬ (v7 a0 4) = ((-1)) →
        K 11 [(2, a0), (0, (-1))] [] v7 115) ∧
        ((v7 a0 4) = ((-1)) →
        zCL a0 = 11 ∧ zC l G 1 d h_M_look [(2, a0)] v7 115 (fun r8 v8 =>
          K 11 [(2, a0), (0, r8)] [] v8 115))))) ∧
      (a1 = 42 →
      zCL a0 = 11 ∧ zC l G 1 d h_M_put [(2, a0), (0, 4), (0, 0)] v6 115 (fun _ v9 =>
        zCL a0 = 11 ∧ ((¬ (v9 a0 4) = ((-1)) →
        K 11 [(2, a0), (0, (-1))] [] v9 115) ∧
        ((v9 a0 4) = ((-1)) →
        zCL a0 = 11 ∧ zC l G 1 d h_M_look [(2, a0)] v9 115 (fun r10 v10 =>
          K 11 [(2, a0), (0, r10)] [] v10 115)))))))))))) : zx l G 1 (d + 1) h_M_term k_M_term 115 Q QX K 300 (k_M_term.drop 11) [(2, a0), (0, a1)] [] v 115 := h
set_option maxRecDepth 100000 in
theorem sg_M_sum_0 {l : Launch} {G : zG} {d : Nat} {Q : Int → zH → Prop} {QX : Nat → zH → Prop} {K : Nat → List zV → List zV → zH → Nat → Prop} {a0 : Int} {v : zH} (h : zCL a0 = 11 ∧ zC l G 1 d h_M_term [(2, a0)] v 115 (fun _ v1 =>
  zCL a0 = 11 ∧ ((¬ (v1 a0 4) = ((-1)) →
  K 11 [(2, a0), (0, (-1))] [] v1 115) ∧
  ((v1 a0 4) = ((-1)) →
  zCL a0 = 11 ∧ zC l G 1 d h_M_look [(2, a0)] v1 115 (fun r2 v2 =>
    K 11 [(2, a0), (0, r2)] [] v2 115))))) : zx l G 1 (d + 1) h_M_sum k_M_sum 115 Q QX K 300 (k_M_sum.drop 0) [(2, a0), (3, 0)] [] v 115 := h
set_option maxRecDepth 100000 in
theorem sg_M_sum_11 {l : Launch} {G : zG} {d : Nat} {Q : Int → zH → Prop} {QX : Nat → zH → Prop} {K : Nat → List zV → List zV → zH → Nat → Prop} {a0 a1 : Int} {v : zH} (h : ((a1 = 43 →
  zCL a0 = 11 ∧ zI ((v a0 3) + 1) ∧ zCL a0 = 11 ∧ zCL a0 = 11 ∧ zC l G 1 d h_M_term [(2, a0)] (zupd v a0 3 ((v a0 3) + 1)) 115 (fun _ v1 =>
    ((¬ a1 = 43 →
    zCL a0 = 11 ∧ zC l G 1 d h_M_put [(2, a0), (0, 3), (0, 0)] v1 115 (fun _ v2 =>
      zCL a0 = 11 ∧ ((¬ (v2 a0 4) = ((-1)) →
      K 11 [(2, a0), (0, (-1))] [] v2 115) ∧
      ((v2 a0 4) = ((-1)) →
      zCL a0 = 11 ∧ zC l G 1 d h_M_look [(2, a0)] v2 115 (fun r3 v3 =>
        K 11 [(2, a0), (0, r3)] [] v3 115))))) ∧
    (a1 = 43 →
    zCL a0 = 11 ∧ zC l G 1 d h_M_put [(2, a0), (0, 2), (0, 0)] v1 115 (fun _ v4 =>
      zCL a0 = 11 ∧ ((¬ (v4 a0 4) = ((-1)) →
      K 11 [(2, a0), (0, (-1))] [] v4 115) ∧
      ((v4 a0 4) = ((-1)) →
      zCL a0 = 11 ∧ zC l G 1 d h_M_look [(2, a0)] v4 115 (fun r5 v5 =>
        K 11 [(2, a0), (0, r5)] [] v5 115)))))))) ∧
  (¬ a1 = 43 →
  ((¬ a1 = 45 →
    Q 0 v) ∧
    (a1 = 45 →
    zCL a0 = 11 ∧ zI ((v a0 3) + 1) ∧ zCL a0 = 11 ∧ zCL a0 = 11 ∧ zC l G 1 d h_M_term [(2, a0)] (zupd v a0 3 ((v a0 3) + 1)) 115 (fun _ v6 =>
      ((¬ a1 = 43 →
      zCL a0 = 11 ∧ zC l G 1 d h_M_put [(2, a0), (0, 3), (0, 0)] v6 115 (fun _ v7 =>
        zCL a0 = 11 ∧ ((¬ (v7 a0 4) = ((-1)) →
        K 11 [(2, a0), (0, (-1))] [] v7 115) ∧
        ((v7 a0 4) = ((-1)) →
        zCL a0 = 11 ∧ zC l G 1 d h_M_look [(2, a0)] v7 115 (fun r8 v8 =>
          K 11 [(2, a0), (0, r8)] [] v8 115))))) ∧
      (a1 = 43 →
      zCL a0 = 11 ∧ zC l G 1 d h_M_put [(2, a0), (0, 2), (0, 0)] v6 115 (fun _ v9 =>
        zCL a0 = 11 ∧ ((¬ (v9 a0 4) = ((-1)) →
        K 11 [(2, a0), (0, (-1))] [] v9 115) ∧
        ((v9 a0 4) = ((-1)) →
        zCL a0 = 11 ∧ zC l G 1 d h_M_look [(2, a0)] v9 115 (fun r10 v10 =>
          K 11 [(2, a0), (0, r10)] [] v10 115)))))))))))) : zx l G 1 (d + 1) h_M_sum k_M_sum 115 Q QX K 300 (k_M_sum.drop 11) [(2, a0), (0, a1)] [] v 115 := h
set_option maxRecDepth 100000 in
theorem sg_M_isSign_0 {l : Launch} {G : zG} {d : Nat} {Q : Int → zH → Prop} {QX : Nat → zH → Prop} {K : Nat → List zV → List zV → zH → Nat → Prop} {a0 : Int} {v : zH} (h : ((a0 = 61 →
  ((1 : Int) = 0 ∨ (1 : Int) = 1) ∧ Q 1 v) ∧
  (¬ a0 = 61 →
  ((a0 = 60 →
    ((1 : Int) = 0 ∨ (1 : Int) = 1) ∧ Q 1 v) ∧
    (¬ a0 = 60 →
    ((¬ a0 = 62 →
      ((0 : Int) = 0 ∨ (0 : Int) = 1) ∧ Q 0 v) ∧
      (a0 = 62 →
      ((1 : Int) = 0 ∨ (1 : Int) = 1) ∧ Q 1 v))))))) : zx l G 1 (d + 1) h_M_isSign k_M_isSign 115 Q QX K 300 (k_M_isSign.drop 0) [(0, a0)] [] v 115 := h
set_option maxRecDepth 100000 in
theorem sg_M_compare_0 {l : Launch} {G : zG} {d : Nat} {Q : Int → zH → Prop} {QX : Nat → zH → Prop} {K : Nat → List zV → List zV → zH → Nat → Prop} {a0 : Int} {v : zH} (h : zCL a0 = 11 ∧ ((¬ (v a0 4) = ((-1)) →
  zC l G 1 d h_M_isSign [(0, (-1))] v 115 (fun r1 v1 =>
    ((¬ r1 = 0 →
    zCL a0 = 11 ∧ zI ((v1 a0 3) + 1) ∧ zCL a0 = 11 ∧ zCL a0 = 11 ∧ zC l G 1 d h_M_sum [(2, a0)] (zupd v1 a0 3 ((v1 a0 3) + 1)) 115 (fun _ v2 =>
      ((¬ ((-1)) = 61 →
      ((¬ ((-1)) = 60 →
        zCL a0 = 11 ∧ zC l G 1 d h_M_put [(2, a0), (0, 8), (0, 0)] v2 115 (fun _ v3 =>
          Q 0 v3)) ∧
        (((-1)) = 60 →
        zCL a0 = 11 ∧ zC l G 1 d h_M_put [(2, a0), (0, 7), (0, 0)] v2 115 (fun _ v4 =>
          Q 0 v4)))) ∧
      (((-1)) = 61 →
      zCL a0 = 11 ∧ zC l G 1 d h_M_put [(2, a0), (0, 6), (0, 0)] v2 115 (fun _ v5 =>
        Q 0 v5))))) ∧
    (r1 = 0 →
    zCL a0 = 11 ∧ zC l G 1 d h_M_bad [(2, a0)] v1 115 (fun _ v6 =>
      Q 0 v6))))) ∧
  ((v a0 4) = ((-1)) →
  zCL a0 = 11 ∧ zC l G 1 d h_M_look [(2, a0)] v 115 (fun r7 v7 =>
    zC l G 1 d h_M_isSign [(0, r7)] v7 115 (fun r8 v8 =>
    ((¬ r8 = 0 →
    zCL a0 = 11 ∧ zI ((v8 a0 3) + 1) ∧ zCL a0 = 11 ∧ zCL a0 = 11 ∧ zC l G 1 d h_M_sum [(2, a0)] (zupd v8 a0 3 ((v8 a0 3) + 1)) 115 (fun _ v9 =>
      ((¬ r7 = 61 →
      ((¬ r7 = 60 →
        zCL a0 = 11 ∧ zC l G 1 d h_M_put [(2, a0), (0, 8), (0, 0)] v9 115 (fun _ v10 =>
          Q 0 v10)) ∧
        (r7 = 60 →
        zCL a0 = 11 ∧ zC l G 1 d h_M_put [(2, a0), (0, 7), (0, 0)] v9 115 (fun _ v11 =>
          Q 0 v11)))) ∧
      (r7 = 61 →
      zCL a0 = 11 ∧ zC l G 1 d h_M_put [(2, a0), (0, 6), (0, 0)] v9 115 (fun _ v12 =>
        Q 0 v12))))) ∧
    (r8 = 0 →
    zCL a0 = 11 ∧ zC l G 1 d h_M_bad [(2, a0)] v8 115 (fun _ v13 =>
      Q 0 v13)))))))) : zx l G 1 (d + 1) h_M_compare k_M_compare 115 Q QX K 300 (k_M_compare.drop 0) [(2, a0), (3, 0)] [] v 115 := h
set_option maxRecDepth 100000 in
theorem sg_M_unit_0 {l : Launch} {G : zG} {d : Nat} {Q : Int → zH → Prop} {QX : Nat → zH → Prop} {K : Nat → List zV → List zV → zH → Nat → Prop} {a0 : Int} {v : zH} (h : zCL a0 = 11 ∧ zC l G 1 d h_M_look [(2, a0)] v 115 (fun r1 v1 =>
  ((¬ r1 = 33 →
  ((¬ r1 = 40 →
    zCL a0 = 11 ∧ zC l G 1 d h_M_sum [(2, a0)] v1 115 (fun _ v2 =>
      zCL a0 = 11 ∧ ((¬ (v2 a0 4) = ((-1)) →
      Q 0 v2) ∧
      ((v2 a0 4) = ((-1)) →
      zCL a0 = 11 ∧ zC l G 1 d h_M_compare [(2, a0)] v2 115 (fun _ v3 =>
        Q 0 v3))))) ∧
    (r1 = 40 →
    zCL a0 = 11 ∧ zC l G 1 d h_M_opens [(2, a0)] v1 115 (fun _ v4 =>
      zCL a0 = 11 ∧ ((¬ (v4 a0 4) = ((-1)) →
      Q 0 v4) ∧
      ((v4 a0 4) = ((-1)) →
      zCL a0 = 11 ∧ zC l G 1 d h_M_condition [(2, a0)] v4 115 (fun _ v5 =>
        zCL a0 = 11 ∧ zC l G 1 d h_M_closes [(2, a0), (0, 41)] v5 115 (fun _ v6 =>
        Q 0 v6)))))))) ∧
  (r1 = 33 →
  zCL a0 = 11 ∧ zC l G 1 d h_M_opens [(2, a0)] v1 115 (fun _ v7 =>
    zCL a0 = 11 ∧ ((¬ (v7 a0 4) = ((-1)) →
    Q 0 v7) ∧
    ((v7 a0 4) = ((-1)) →
    zCL a0 = 11 ∧ zC l G 1 d h_M_unit [(2, a0)] v7 115 (fun _ v8 =>
      zCL a0 = 11 ∧ zC l G 1 d h_M_put [(2, a0), (0, 9), (0, 0)] v8 115 (fun _ v9 =>
      zCL a0 = 11 ∧ zI ((v9 a0 5) - 1) ∧ zCL a0 = 11 ∧ Q 0 (zupd v9 a0 5 ((v9 a0 5) - 1))))))))))) : zx l G 1 (d + 1) h_M_unit k_M_unit 115 Q QX K 300 (k_M_unit.drop 0) [(2, a0), (3, 0)] [] v 115 := h
set_option maxRecDepth 100000 in
theorem sg_M_goOnAnd_0 {l : Launch} {G : zG} {d : Nat} {Q : Int → zH → Prop} {QX : Nat → zH → Prop} {K : Nat → List zV → List zV → zH → Nat → Prop} {a0 : Int} {v : zH} (h : zCL a0 = 11 ∧ ((¬ (v a0 4) = ((-1)) →
  Q 0 v) ∧
  ((v a0 4) = ((-1)) →
  zCL a0 = 11 ∧ zC l G 1 d h_M_look [(2, a0)] v 115 (fun r1 v1 =>
    ((¬ r1 = 38 →
    Q 0 v1) ∧
    (r1 = 38 →
    zCL a0 = 11 ∧ zI ((v1 a0 3) + 1) ∧ zCL a0 = 11 ∧ zCL a0 = 11 ∧ zC l G 1 d h_M_unit [(2, a0)] (zupd v1 a0 3 ((v1 a0 3) + 1)) 115 (fun _ v2 =>
      zCL a0 = 11 ∧ zC l G 1 d h_M_put [(2, a0), (0, 10), (0, 0)] v2 115 (fun _ v3 =>
      K 0 [(2, a0)] [] v3 115)))))))) : zx l G 1 (d + 1) h_M_goOnAnd k_M_goOnAnd 115 Q QX K 300 (k_M_goOnAnd.drop 0) [(2, a0)] [] v 115 := h
set_option maxRecDepth 100000 in
theorem sg_M_goOnOr_0 {l : Launch} {G : zG} {d : Nat} {Q : Int → zH → Prop} {QX : Nat → zH → Prop} {K : Nat → List zV → List zV → zH → Nat → Prop} {a0 : Int} {v : zH} (h : zCL a0 = 11 ∧ ((¬ (v a0 4) = ((-1)) →
  Q 0 v) ∧
  ((v a0 4) = ((-1)) →
  zCL a0 = 11 ∧ zC l G 1 d h_M_look [(2, a0)] v 115 (fun r1 v1 =>
    ((¬ r1 = 124 →
    Q 0 v1) ∧
    (r1 = 124 →
    zCL a0 = 11 ∧ zI ((v1 a0 3) + 1) ∧ zCL a0 = 11 ∧ zCL a0 = 11 ∧ zC l G 1 d h_M_unit [(2, a0)] (zupd v1 a0 3 ((v1 a0 3) + 1)) 115 (fun _ v2 =>
      zCL a0 = 11 ∧ zC l G 1 d h_M_goOnAnd [(2, a0)] v2 115 (fun _ v3 =>
      zCL a0 = 11 ∧ zC l G 1 d h_M_put [(2, a0), (0, 11), (0, 0)] v3 115 (fun _ v4 =>
      K 0 [(2, a0)] [] v4 115))))))))) : zx l G 1 (d + 1) h_M_goOnOr k_M_goOnOr 115 Q QX K 300 (k_M_goOnOr.drop 0) [(2, a0)] [] v 115 := h
set_option maxRecDepth 100000 in
theorem sg_M_condition_0 {l : Launch} {G : zG} {d : Nat} {Q : Int → zH → Prop} {QX : Nat → zH → Prop} {K : Nat → List zV → List zV → zH → Nat → Prop} {a0 : Int} {v : zH} (h : zCL a0 = 11 ∧ zC l G 1 d h_M_unit [(2, a0)] v 115 (fun _ v1 =>
  zCL a0 = 11 ∧ zC l G 1 d h_M_goOnAnd [(2, a0)] v1 115 (fun _ v2 =>
  zCL a0 = 11 ∧ zC l G 1 d h_M_goOnOr [(2, a0)] v2 115 (fun _ v3 =>
  Q 0 v3)))) : zx l G 1 (d + 1) h_M_condition k_M_condition 115 Q QX K 300 (k_M_condition.drop 0) [(2, a0)] [] v 115 := h
set_option maxRecDepth 100000 in
theorem sg_M_clause_0 {l : Launch} {G : zG} {d : Nat} {Q : Int → zH → Prop} {QX : Nat → zH → Prop} {K : Nat → List zV → List zV → zH → Nat → Prop} {a0 : Int} {v : zH} (h : zCL a0 = 11 ∧ zI (90 * (v a0 14)) ∧ zCL a0 = 11 ∧ zCL a0 = 11 ∧ zCL (a0 + 5) = 20 ∧ (0 ≤ (v a0 14) ∧ (v a0 14) < zLN (a0 + 5)) ∧ zI ((90 * (v a0 14)) + (v (a0 + 5) (v a0 14))) ∧ zCL a0 = 11 ∧ ((¬ (v a0 4) = ((-1)) →
  K 21 [(2, a0), (0, (90 * (v a0 14)) + (v (a0 + 5) (v a0 14))), (3, 0)] [] v 115) ∧
  ((v a0 4) = ((-1)) →
  zCL a0 = 11 ∧ zC l G 1 d h_M_look [(2, a0)] v 115 (fun r1 v1 =>
    ((r1 = 121 →
    K 21 [(2, a0), (0, (90 * (v a0 14)) + (v (a0 + 5) (v a0 14))), (3, 0)] [] v1 115) ∧
    (¬ r1 = 121 →
    zCL a0 = 11 ∧ zC l G 1 d h_M_bad [(2, a0)] v1 115 (fun _ v2 =>
      K 21 [(2, a0), (0, (90 * (v a0 14)) + (v (a0 + 5) (v a0 14))), (3, 0)] [] v2 115))))))) : zx l G 1 (d + 1) h_M_clause k_M_clause 115 Q QX K 300 (k_M_clause.drop 0) [(2, a0), (3, 0), (3, 0)] [] v 115 := h
set_option maxRecDepth 100000 in
theorem sg_M_clause_21 {l : Launch} {G : zG} {d : Nat} {Q : Int → zH → Prop} {QX : Nat → zH → Prop} {K : Nat → List zV → List zV → zH → Nat → Prop} {a0 a1 : Int} {v : zH} (h : zCL a0 = 11 ∧ zI ((v a0 3) + 1) ∧ zCL a0 = 11 ∧ zCL a0 = 11 ∧ ((¬ ((zupd v a0 3 ((v a0 3) + 1)) a0 4) = ((-1)) →
  K 37 [(2, a0), (0, a1), (3, 0)] [] (zupd v a0 3 ((v a0 3) + 1)) 115) ∧
  (((zupd v a0 3 ((v a0 3) + 1)) a0 4) = ((-1)) →
  zCL a0 = 11 ∧ zC l G 1 d h_M_look [(2, a0)] (zupd v a0 3 ((v a0 3) + 1)) 115 (fun r1 v1 =>
    ((r1 = 58 →
    K 37 [(2, a0), (0, a1), (3, 0)] [] v1 115) ∧
    (¬ r1 = 58 →
    zCL a0 = 11 ∧ zC l G 1 d h_M_bad [(2, a0)] v1 115 (fun _ v2 =>
      K 37 [(2, a0), (0, a1), (3, 0)] [] v2 115))))))) : zx l G 1 (d + 1) h_M_clause k_M_clause 115 Q QX K 300 (k_M_clause.drop 21) [(2, a0), (0, a1), (3, 0)] [] v 115 := h
set_option maxRecDepth 100000 in
theorem sg_M_clause_37 {l : Launch} {G : zG} {d : Nat} {Q : Int → zH → Prop} {QX : Nat → zH → Prop} {K : Nat → List zV → List zV → zH → Nat → Prop} {a0 a1 : Int} {v : zH} (h : zCL a0 = 11 ∧ zI ((v a0 3) + 1) ∧ zCL a0 = 11 ∧ zCL a0 = 11 ∧ ((((zupd v a0 3 ((v a0 3) + 1)) a0 4) = ((-1)) →
  zCL a0 = 11 ∧ zCL a0 = 11 ∧ zCL a0 = 11 ∧ zCL (a0 + 4) = 20 ∧ (0 ≤ ((zupd v a0 3 ((v a0 3) + 1)) a0 14) ∧ ((zupd v a0 3 ((v a0 3) + 1)) a0 14) < zLN (a0 + 4)) ∧ zCL (a0 + 6) = 20 ∧ (0 ≤ a1 ∧ a1 < zLN (a0 + 6)) ∧ zCL a0 = 11 ∧ zC l G 1 d h_M_look [(2, a0)] (zupd (zupd v a0 3 ((v a0 3) + 1)) (a0 + 6) a1 ((zupd v a0 3 ((v a0 3) + 1)) (a0 + 4) ((zupd v a0 3 ((v a0 3) + 1)) a0 14))) 115 (fun r1 v1 =>
    ((r1 = 33 →
    K 68 [(2, a0), (0, a1), (3, 0)] [(0, 1)] v1 115) ∧
    (¬ r1 = 33 →
    zCL a0 = 11 ∧ zC l G 1 d h_M_look [(2, a0)] v1 115 (fun r2 v2 =>
      ((¬ r2 = 40 →
      K 68 [(2, a0), (0, a1), (3, 0)] [(0, 0)] v2 115) ∧
      (r2 = 40 →
      K 68 [(2, a0), (0, a1), (3, 0)] [(0, 1)] v2 115))))))) ∧
  (¬ ((zupd v a0 3 ((v a0 3) + 1)) a0 4) = ((-1)) →
  Q 0 (zupd v a0 3 ((v a0 3) + 1))))) : zx l G 1 (d + 1) h_M_clause k_M_clause 115 Q QX K 300 (k_M_clause.drop 37) [(2, a0), (0, a1), (3, 0)] [] v 115 := h
set_option maxRecDepth 100000 in
theorem sg_M_clause_68 {l : Launch} {G : zG} {d : Nat} {Q : Int → zH → Prop} {QX : Nat → zH → Prop} {K : Nat → List zV → List zV → zH → Nat → Prop} {a0 a1 s0 : Int} {v : zH} (h : ((s0 = 0 →
  zCL a0 = 11 ∧ zC l G 1 d h_M_sum [(2, a0)] v 115 (fun _ v1 =>
    zCL a0 = 11 ∧ ((¬ (v1 a0 4) = ((-1)) →
    (((0 : Int) = 0 →
      K 96 [(2, a0), (0, a1), (0, 0)] [] v1 115) ∧
      (¬ (0 : Int) = 0 →
      zCL a0 = 11 ∧ zC l G 1 d h_M_compare [(2, a0)] v1 115 (fun _ v2 =>
        zCL a0 = 11 ∧ zC l G 1 d h_M_goOnAnd [(2, a0)] v2 115 (fun _ v3 =>
        zCL a0 = 11 ∧ zC l G 1 d h_M_goOnOr [(2, a0)] v3 115 (fun _ v4 =>
        K 96 [(2, a0), (0, a1), (0, 0)] [] v4 115)))))) ∧
    ((v1 a0 4) = ((-1)) →
    zCL a0 = 11 ∧ zC l G 1 d h_M_look [(2, a0)] v1 115 (fun r5 v5 =>
      zC l G 1 d h_M_isSign [(0, r5)] v5 115 (fun r6 v6 =>
      ((r6 = 0 →
      (((0 : Int) = 0 →
        K 96 [(2, a0), (0, a1), (0, 0)] [] v6 115) ∧
        (¬ (0 : Int) = 0 →
        zCL a0 = 11 ∧ zC l G 1 d h_M_compare [(2, a0)] v6 115 (fun _ v7 =>
          zCL a0 = 11 ∧ zC l G 1 d h_M_goOnAnd [(2, a0)] v7 115 (fun _ v8 =>
          zCL a0 = 11 ∧ zC l G 1 d h_M_goOnOr [(2, a0)] v8 115 (fun _ v9 =>
          K 96 [(2, a0), (0, a1), (0, 0)] [] v9 115)))))) ∧
      (¬ r6 = 0 →
      (((1 : Int) = 0 →
        K 96 [(2, a0), (0, a1), (0, 1)] [] v6 115) ∧
        (¬ (1 : Int) = 0 →
        zCL a0 = 11 ∧ zC l G 1 d h_M_compare [(2, a0)] v6 115 (fun _ v10 =>
          zCL a0 = 11 ∧ zC l G 1 d h_M_goOnAnd [(2, a0)] v10 115 (fun _ v11 =>
          zCL a0 = 11 ∧ zC l G 1 d h_M_goOnOr [(2, a0)] v11 115 (fun _ v12 =>
          K 96 [(2, a0), (0, a1), (0, 1)] [] v12 115))))))))))))) ∧
  (¬ s0 = 0 →
  zCL a0 = 11 ∧ zC l G 1 d h_M_condition [(2, a0)] v 115 (fun _ v13 =>
    K 96 [(2, a0), (0, a1), (0, s0)] [] v13 115)))) : zx l G 1 (d + 1) h_M_clause k_M_clause 115 Q QX K 300 (k_M_clause.drop 68) [(2, a0), (0, a1), (3, 0)] [(0, s0)] v 115 := h
set_option maxRecDepth 100000 in
theorem sg_M_clause_96 {l : Launch} {G : zG} {d : Nat} {Q : Int → zH → Prop} {QX : Nat → zH → Prop} {K : Nat → List zV → List zV → zH → Nat → Prop} {a0 a1 a2 : Int} {v : zH} (h : zCL a0 = 11 ∧ zCL a0 = 11 ∧ zCL (a0 + 6) = 20 ∧ (0 ≤ a1 ∧ a1 < zLN (a0 + 6)) ∧ zCL (a0 + 7) = 20 ∧ (0 ≤ a1 ∧ a1 < zLN (a0 + 7)) ∧ ((a2 = 0 →
  K 134 [(2, a0), (0, a1), (3, 0)] [] (zupd v (a0 + 7) a1 (v (a0 + 6) a1)) 115) ∧
  (¬ a2 = 0 →
  zCL a0 = 11 ∧ ((¬ ((zupd v (a0 + 7) a1 (v (a0 + 6) a1)) a0 4) = ((-1)) →
    K 134 [(2, a0), (0, a1), (3, 0)] [] (zupd v (a0 + 7) a1 (v (a0 + 6) a1)) 115) ∧
    (((zupd v (a0 + 7) a1 (v (a0 + 6) a1)) a0 4) = ((-1)) →
    zCL a0 = 11 ∧ zC l G 1 d h_M_look [(2, a0)] (zupd v (a0 + 7) a1 (v (a0 + 6) a1)) 115 (fun r1 v1 =>
      ((r1 = 63 →
      zCL a0 = 11 ∧ zI ((v1 a0 3) + 1) ∧ zCL a0 = 11 ∧ zCL a0 = 11 ∧ zCL a0 = 11 ∧ zCL a0 = 11 ∧ zCL (a0 + 4) = 20 ∧ (0 ≤ ((zupd v1 a0 3 ((v1 a0 3) + 1)) a0 14) ∧ ((zupd v1 a0 3 ((v1 a0 3) + 1)) a0 14) < zLN (a0 + 4)) ∧ zCL (a0 + 7) = 20 ∧ (0 ≤ a1 ∧ a1 < zLN (a0 + 7)) ∧ zCL a0 = 11 ∧ zC l G 1 d h_M_sum [(2, a0)] (zupd (zupd v1 a0 3 ((v1 a0 3) + 1)) (a0 + 7) a1 ((zupd v1 a0 3 ((v1 a0 3) + 1)) (a0 + 4) ((zupd v1 a0 3 ((v1 a0 3) + 1)) a0 14))) 115 (fun _ v2 =>
        K 134 [(2, a0), (0, a1), (3, 0)] [] v2 115)) ∧
      (¬ r1 = 63 →
      zCL a0 = 11 ∧ zC l G 1 d h_M_bad [(2, a0)] v1 115 (fun _ v3 =>
        Q 0 v3))))))))) : zx l G 1 (d + 1) h_M_clause k_M_clause 115 Q QX K 300 (k_M_clause.drop 96) [(2, a0), (0, a1), (0, a2)] [] v 115 := h
set_option maxRecDepth 100000 in
theorem sg_M_clause_134 {l : Launch} {G : zG} {d : Nat} {Q : Int → zH → Prop} {QX : Nat → zH → Prop} {K : Nat → List zV → List zV → zH → Nat → Prop} {a0 a1 : Int} {v : zH} (h : zCL a0 = 11 ∧ zCL a0 = 11 ∧ zCL a0 = 11 ∧ zCL (a0 + 4) = 20 ∧ (0 ≤ (v a0 14) ∧ (v a0 14) < zLN (a0 + 4)) ∧ zCL (a0 + 8) = 20 ∧ (0 ≤ a1 ∧ a1 < zLN (a0 + 8)) ∧ zCL a0 = 11 ∧ zCL a0 = 11 ∧ zCL (a0 + 5) = 20 ∧ (0 ≤ ((zupd v (a0 + 8) a1 (v (a0 + 4) (v a0 14))) a0 14) ∧ ((zupd v (a0 + 8) a1 (v (a0 + 4) (v a0 14))) a0 14) < zLN (a0 + 5)) ∧ zI (((zupd v (a0 + 8) a1 (v (a0 + 4) (v a0 14))) (a0 + 5) ((zupd v (a0 + 8) a1 (v (a0 + 4) (v a0 14))) a0 14)) + 1) ∧ zCL (a0 + 5) = 20 ∧ (0 ≤ ((zupd v (a0 + 8) a1 (v (a0 + 4) (v a0 14))) a0 14) ∧ ((zupd v (a0 + 8) a1 (v (a0 + 4) (v a0 14))) a0 14) < zLN (a0 + 5)) ∧ Q 0 (zupd (zupd v (a0 + 8) a1 (v (a0 + 4) (v a0 14))) (a0 + 5) ((zupd v (a0 + 8) a1 (v (a0 + 4) (v a0 14))) a0 14) (((zupd v (a0 + 8) a1 (v (a0 + 4) (v a0 14))) (a0 + 5) ((zupd v (a0 + 8) a1 (v (a0 + 4) (v a0 14))) a0 14)) + 1))) : zx l G 1 (d + 1) h_M_clause k_M_clause 115 Q QX K 300 (k_M_clause.drop 134) [(2, a0), (0, a1), (3, 0)] [] v 115 := h
set_option maxRecDepth 100000 in
theorem sg_M_open_0 {l : Launch} {G : zG} {d : Nat} {Q : Int → zH → Prop} {QX : Nat → zH → Prop} {K : Nat → List zV → List zV → zH → Nat → Prop} {a0 a1 : Int} {v : zH} (h : zCL a0 = 11 ∧ zCL a0 = 11 ∧ zCL a0 = 11 ∧ zCL a0 = 11 ∧ zCL a0 = 11 ∧ zCL (a0 + 4) = 20 ∧ (0 ≤ a1 ∧ a1 < zLN (a0 + 4)) ∧ zCL a0 = 11 ∧ zCL (a0 + 5) = 20 ∧ (0 ≤ a1 ∧ a1 < zLN (a0 + 5)) ∧ Q 0 (zupd (zupd (zupd (zupd (zupd (zupd v a0 14 a1) a0 3 0) a0 4 ((-1))) a0 5 0) (a0 + 4) a1 0) (a0 + 5) a1 0)) : zx l G 1 (d + 1) h_M_open k_M_open 115 Q QX K 300 (k_M_open.drop 0) [(2, a0), (0, a1)] [] v 115 := h
set_option maxRecDepth 100000 in
theorem sg_M_atEnd_0 {l : Launch} {G : zG} {d : Nat} {Q : Int → zH → Prop} {QX : Nat → zH → Prop} {K : Nat → List zV → List zV → zH → Nat → Prop} {a0 : Int} {v : zH} (h : zCL a0 = 11 ∧ ((¬ (v a0 4) = ((-1)) →
  zCL a0 = 11 ∧ Q (v a0 4) v) ∧
  ((v a0 4) = ((-1)) →
  zCL a0 = 11 ∧ zC l G 1 d h_M_look [(2, a0)] v 115 (fun r1 v1 =>
    ((r1 = ((-1)) →
    zCL a0 = 11 ∧ Q (v1 a0 4) v1) ∧
    (¬ r1 = ((-1)) →
    zCL a0 = 11 ∧ zC l G 1 d h_M_bad [(2, a0)] v1 115 (fun _ v2 =>
      zCL a0 = 11 ∧ Q (v2 a0 4) v2))))))) : zx l G 1 (d + 1) h_M_atEnd k_M_atEnd 115 Q QX K 300 (k_M_atEnd.drop 0) [(2, a0)] [] v 115 := h
set_option maxRecDepth 100000 in
theorem sg_M_readLaw_0 {l : Launch} {G : zG} {d : Nat} {Q : Int → zH → Prop} {QX : Nat → zH → Prop} {K : Nat → List zV → List zV → zH → Nat → Prop} {a0 a1 : Int} {v : zH} (h : zCL a0 = 11 ∧ zC l G 1 d h_M_open [(2, a0), (0, a1)] v 115 (fun _ v1 =>
  zCL a0 = 11 ∧ zC l G 1 d h_M_clause [(2, a0)] v1 115 (fun _ v2 =>
  K 5 [(2, a0), (3, 0)] [] v2 115))) : zx l G 1 (d + 1) h_M_readLaw k_M_readLaw 115 Q QX K 300 (k_M_readLaw.drop 0) [(2, a0), (0, a1)] [] v 115 := h
set_option maxRecDepth 100000 in
theorem sg_M_readLaw_5 {l : Launch} {G : zG} {d : Nat} {Q : Int → zH → Prop} {QX : Nat → zH → Prop} {K : Nat → List zV → List zV → zH → Nat → Prop} {a0 : Int} {v : zH} (h : zCL a0 = 11 ∧ ((¬ (v a0 4) = ((-1)) →
  zCL a0 = 11 ∧ zC l G 1 d h_M_atEnd [(2, a0)] v 115 (fun r1 v1 =>
    Q r1 v1)) ∧
  ((v a0 4) = ((-1)) →
  zCL a0 = 11 ∧ zC l G 1 d h_M_look [(2, a0)] v 115 (fun r2 v2 =>
    ((¬ r2 = 59 →
    zCL a0 = 11 ∧ zC l G 1 d h_M_atEnd [(2, a0)] v2 115 (fun r3 v3 =>
      Q r3 v3)) ∧
    (r2 = 59 →
    zCL a0 = 11 ∧ zI ((v2 a0 3) + 1) ∧ zCL a0 = 11 ∧ zCL a0 = 11 ∧ zC l G 1 d h_M_clause [(2, a0)] (zupd v2 a0 3 ((v2 a0 3) + 1)) 115 (fun _ v4 =>
      K 5 [(2, a0), (3, 0)] [] v4 115))))))) : zx l G 1 (d + 1) h_M_readLaw k_M_readLaw 115 Q QX K 300 (k_M_readLaw.drop 5) [(2, a0), (3, 0)] [] v 115 := h
set_option maxRecDepth 100000 in
theorem sg_M_bounded_0 {l : Launch} {G : zG} {d : Nat} {Q : Int → zH → Prop} {QX : Nat → zH → Prop} {K : Nat → List zV → List zV → zH → Nat → Prop} {a0 : Int} {v : zH} (h : zI (max ((-1000000)) (min 1000000 a0)) ∧ Q (max ((-1000000)) (min 1000000 a0)) v) : zx l G 1 (d + 1) h_M_bounded k_M_bounded 115 Q QX K 300 (k_M_bounded.drop 0) [(1, a0), (3, 0)] [] v 115 := h
set_option maxRecDepth 100000 in
theorem sg_M_worked_0 {l : Launch} {G : zG} {d : Nat} {Q : Int → zH → Prop} {QX : Nat → zH → Prop} {K : Nat → List zV → List zV → zH → Nat → Prop} {a0 a1 a3 : Int} {v : zH} (h : ((a0 < 2 → ((¬ (zcmp a1 0) = 0 →
    Q 1 v) ∧
    ((zcmp a1 0) = 0 →
    (((zcmp a3 0) = 0 →
      Q 0 v) ∧
      (¬ (zcmp a3 0) = 0 →
      Q 1 v))))) ∧
  (a0 = 2 → zLg (a1 + a3) ∧ zC l G 1 d h_M_bounded [(1, a1 + a3)] v 115 (fun r1 v1 =>
    Q r1 v1)) ∧
  (a0 = 3 → zLg (a1 - a3) ∧ zC l G 1 d h_M_bounded [(1, a1 - a3)] v 115 (fun r2 v2 =>
    Q r2 v2)) ∧
  (a0 = 4 → zLg (a1 * a3) ∧ zC l G 1 d h_M_bounded [(1, a1 * a3)] v 115 (fun r3 v3 =>
    Q r3 v3)) ∧
  (a0 = 5 → ((¬ (zcmp a3 0) = 0 →
    ¬ a3 = 0 ∧ zLg (a1.tdiv a3) ∧ zC l G 1 d h_M_bounded [(1, a1.tdiv a3)] v 115 (fun r4 v4 =>
      Q r4 v4)) ∧
    ((zcmp a3 0) = 0 →
    Q 0 v))) ∧
  (a0 = 6 → ((¬ (zcmp a1 a3) = 0 →
    Q 0 v) ∧
    ((zcmp a1 a3) = 0 →
    Q 1 v))) ∧
  (a0 = 7 → ((0 ≤ (zcmp a1 a3) →
    Q 0 v) ∧
    ((zcmp a1 a3) < 0 →
    Q 1 v))) ∧
  (a0 = 8 → (((zcmp a1 a3) ≤ 0 →
    Q 0 v) ∧
    (0 < (zcmp a1 a3) →
    Q 1 v))) ∧
  (a0 = 9 → ((¬ (zcmp a1 0) = 0 →
    Q 1 v) ∧
    ((zcmp a1 0) = 0 →
    (((zcmp a3 0) = 0 →
      Q 0 v) ∧
      (¬ (zcmp a3 0) = 0 →
      Q 1 v))))) ∧
  (a0 = 10 → (((zcmp a1 0) = 0 →
    Q 0 v) ∧
    (¬ (zcmp a1 0) = 0 →
    (((zcmp a3 0) = 0 →
      Q 0 v) ∧
      (¬ (zcmp a3 0) = 0 →
      Q 1 v))))) ∧
  (11 ≤ a0 → ((¬ (zcmp a1 0) = 0 →
    Q 1 v) ∧
    ((zcmp a1 0) = 0 →
    (((zcmp a3 0) = 0 →
      Q 0 v) ∧
      (¬ (zcmp a3 0) = 0 →
      Q 1 v))))))) : zx l G 1 (d + 1) h_M_worked k_M_worked 115 Q QX K 300 (k_M_worked.drop 0) [(0, a0), (1, a1), (3, 0), (1, a3), (3, 0)] [] v 115 := h
set_option maxRecDepth 100000 in
theorem sg_M_workOut_0 {l : Launch} {G : zG} {d : Nat} {Q : Int → zH → Prop} {QX : Nat → zH → Prop} {K : Nat → List zV → List zV → zH → Nat → Prop} {a0 a1 a2 a3 : Int} {v : zH} (h : zI (340 * a1) ∧ zI ((340 * a1) + a2) ∧ K 8 [(2, a0), (0, a1), (3, 0), (0, a3), (0, 0), (0, (340 * a1) + a2)] [] v 115) : zx l G 1 (d + 1) h_M_workOut k_M_workOut 115 Q QX K 300 (k_M_workOut.drop 0) [(2, a0), (0, a1), (0, a2), (0, a3), (3, 0), (3, 0)] [] v 115 := h
set_option maxRecDepth 100000 in
theorem sg_M_workOut_8 {l : Launch} {G : zG} {d : Nat} {Q : Int → zH → Prop} {QX : Nat → zH → Prop} {K : Nat → List zV → List zV → zH → Nat → Prop} {a0 a1 a3 a4 a5 : Int} {v : zH} (h : zI (340 * a1) ∧ zI ((340 * a1) + a3) ∧ ((((340 * a1) + a3) ≤ a5 →
  zCL a0 = 11 ∧ zCL (a0 + 10) = 20 ∧ (0 ≤ (0 : Int) ∧ 0 < zLN (a0 + 10)) ∧ Q (v (a0 + 10) 0) v) ∧
  (a5 < ((340 * a1) + a3) →
  zCL a0 = 11 ∧ zCL (a0 + 2) = 20 ∧ (0 ≤ a5 ∧ a5 < zLN (a0 + 2)) ∧ (((v (a0 + 2) a5) = 0 →
    zCL a0 = 11 ∧ zCL a0 = 11 ∧ zCL (a0 + 2) = 20 ∧ (0 ≤ a5 ∧ a5 < zLN (a0 + 2)) ∧ ((¬ (v (a0 + 2) a5) = 0 →
      zCL a0 = 11 ∧ zCL a0 = 11 ∧ zCL (a0 + 3) = 20 ∧ (0 ≤ a5 ∧ a5 < zLN (a0 + 3)) ∧ zCL (a0 + 9) = 20 ∧ (0 ≤ (v (a0 + 3) a5) ∧ (v (a0 + 3) a5) < zLN (a0 + 9)) ∧ zCL (a0 + 10) = 20 ∧ (0 ≤ a4 ∧ a4 < zLN (a0 + 10)) ∧ zI (a4 + 1) ∧ zI (a5 + 1) ∧ K 8 [(2, a0), (0, a1), (3, 0), (0, a3), (0, a4 + 1), (0, a5 + 1)] [] (zupd v (a0 + 10) a4 (v (a0 + 9) (v (a0 + 3) a5))) 115) ∧
      ((v (a0 + 2) a5) = 0 →
      zCL a0 = 11 ∧ zCL (a0 + 3) = 20 ∧ (0 ≤ a5 ∧ a5 < zLN (a0 + 3)) ∧ zCL (a0 + 10) = 20 ∧ (0 ≤ a4 ∧ a4 < zLN (a0 + 10)) ∧ zI (a4 + 1) ∧ zI (a5 + 1) ∧ K 8 [(2, a0), (0, a1), (3, 0), (0, a3), (0, a4 + 1), (0, a5 + 1)] [] (zupd v (a0 + 10) a4 (v (a0 + 3) a5)) 115))) ∧
    (¬ (v (a0 + 2) a5) = 0 →
    zCL a0 = 11 ∧ zCL (a0 + 2) = 20 ∧ (0 ≤ a5 ∧ a5 < zLN (a0 + 2)) ∧ ((¬ (v (a0 + 2) a5) = 1 →
      zCL a0 = 11 ∧ zCL (a0 + 2) = 20 ∧ (0 ≤ a5 ∧ a5 < zLN (a0 + 2)) ∧ ((¬ (v (a0 + 2) a5) = 9 →
        zI (a4 + (-1)) ∧ zCL a0 = 11 ∧ zI ((a4 + (-1)) - 1) ∧ zCL a0 = 11 ∧ zCL (a0 + 2) = 20 ∧ (0 ≤ a5 ∧ a5 < zLN (a0 + 2)) ∧ zCL a0 = 11 ∧ zI ((a4 + (-1)) - 1) ∧ zCL (a0 + 10) = 20 ∧ (0 ≤ ((a4 + (-1)) - 1) ∧ ((a4 + (-1)) - 1) < zLN (a0 + 10)) ∧ zCL a0 = 11 ∧ zCL (a0 + 10) = 20 ∧ (0 ≤ (a4 + (-1)) ∧ (a4 + (-1)) < zLN (a0 + 10)) ∧ zC l G 1 d h_M_worked [(0, v (a0 + 2) a5), (1, v (a0 + 10) ((a4 + (-1)) - 1)), (1, v (a0 + 10) (a4 + (-1)))] v 115 (fun r1 v1 =>
          zCL (a0 + 10) = 20 ∧ (0 ≤ ((a4 + (-1)) - 1) ∧ ((a4 + (-1)) - 1) < zLN (a0 + 10)) ∧ zI (a5 + 1) ∧ K 8 [(2, a0), (0, a1), (3, 0), (0, a3), (0, a4 + (-1)), (0, a5 + 1)] [] (zupd v1 (a0 + 10) ((a4 + (-1)) - 1) r1) 115)) ∧
        ((v (a0 + 2) a5) = 9 →
        zCL a0 = 11 ∧ zI (a4 - 1) ∧ zCL a0 = 11 ∧ zI (a4 - 1) ∧ zCL (a0 + 10) = 20 ∧ (0 ≤ (a4 - 1) ∧ (a4 - 1) < zLN (a0 + 10)) ∧ zI (1 - (v (a0 + 10) (a4 - 1))) ∧ zCL (a0 + 10) = 20 ∧ (0 ≤ (a4 - 1) ∧ (a4 - 1) < zLN (a0 + 10)) ∧ zI (a5 + 1) ∧ K 8 [(2, a0), (0, a1), (3, 0), (0, a3), (0, a4), (0, a5 + 1)] [] (zupd v (a0 + 10) (a4 - 1) (1 - (v (a0 + 10) (a4 - 1)))) 115))) ∧
      ((v (a0 + 2) a5) = 1 →
      zCL a0 = 11 ∧ zCL a0 = 11 ∧ zCL (a0 + 2) = 20 ∧ (0 ≤ a5 ∧ a5 < zLN (a0 + 2)) ∧ ((¬ (v (a0 + 2) a5) = 0 →
        zCL a0 = 11 ∧ zCL a0 = 11 ∧ zCL (a0 + 3) = 20 ∧ (0 ≤ a5 ∧ a5 < zLN (a0 + 3)) ∧ zCL (a0 + 9) = 20 ∧ (0 ≤ (v (a0 + 3) a5) ∧ (v (a0 + 3) a5) < zLN (a0 + 9)) ∧ zCL (a0 + 10) = 20 ∧ (0 ≤ a4 ∧ a4 < zLN (a0 + 10)) ∧ zI (a4 + 1) ∧ zI (a5 + 1) ∧ K 8 [(2, a0), (0, a1), (3, 0), (0, a3), (0, a4 + 1), (0, a5 + 1)] [] (zupd v (a0 + 10) a4 (v (a0 + 9) (v (a0 + 3) a5))) 115) ∧
        ((v (a0 + 2) a5) = 0 →
        zCL a0 = 11 ∧ zCL (a0 + 3) = 20 ∧ (0 ≤ a5 ∧ a5 < zLN (a0 + 3)) ∧ zCL (a0 + 10) = 20 ∧ (0 ≤ a4 ∧ a4 < zLN (a0 + 10)) ∧ zI (a4 + 1) ∧ zI (a5 + 1) ∧ K 8 [(2, a0), (0, a1), (3, 0), (0, a3), (0, a4 + 1), (0, a5 + 1)] [] (zupd v (a0 + 10) a4 (v (a0 + 3) a5)) 115))))))))) : zx l G 1 (d + 1) h_M_workOut k_M_workOut 115 Q QX K 300 (k_M_workOut.drop 8) [(2, a0), (0, a1), (3, 0), (0, a3), (0, a4), (0, a5)] [] v 115 := h
set_option maxRecDepth 100000 in
theorem sg_M_worthOf_0 {l : Launch} {G : zG} {d : Nat} {Q : Int → zH → Prop} {QX : Nat → zH → Prop} {K : Nat → List zV → List zV → zH → Nat → Prop} {a0 a1 : Int} {v : zH} (h : zI (90 * a1) ∧ K 4 [(2, a0), (0, a1), (0, 90 * a1)] [] v 115) : zx l G 1 (d + 1) h_M_worthOf k_M_worthOf 115 Q QX K 300 (k_M_worthOf.drop 0) [(2, a0), (0, a1), (3, 0)] [] v 115 := h
set_option maxRecDepth 100000 in
theorem sg_M_worthOf_4 {l : Launch} {G : zG} {d : Nat} {Q : Int → zH → Prop} {QX : Nat → zH → Prop} {K : Nat → List zV → List zV → zH → Nat → Prop} {a0 a1 a2 : Int} {v : zH} (h : zI (90 * a1) ∧ zCL a0 = 11 ∧ zCL (a0 + 5) = 20 ∧ (0 ≤ a1 ∧ a1 < zLN (a0 + 5)) ∧ zI ((90 * a1) + (v (a0 + 5) a1)) ∧ ((((90 * a1) + (v (a0 + 5) a1)) ≤ a2 →
  Q 0 v) ∧
  (a2 < ((90 * a1) + (v (a0 + 5) a1)) →
  zCL a0 = 11 ∧ zCL (a0 + 6) = 20 ∧ (0 ≤ a2 ∧ a2 < zLN (a0 + 6)) ∧ zCL a0 = 11 ∧ zCL (a0 + 7) = 20 ∧ (0 ≤ a2 ∧ a2 < zLN (a0 + 7)) ∧ (((v (a0 + 6) a2) = (v (a0 + 7) a2) →
    zCL a0 = 11 ∧ zCL (a0 + 7) = 20 ∧ (0 ≤ a2 ∧ a2 < zLN (a0 + 7)) ∧ zCL a0 = 11 ∧ zCL (a0 + 8) = 20 ∧ (0 ≤ a2 ∧ a2 < zLN (a0 + 8)) ∧ zCL a0 = 11 ∧ zC l G 1 d h_M_workOut [(2, a0), (0, a1), (0, v (a0 + 7) a2), (0, v (a0 + 8) a2)] v 115 (fun r1 v1 =>
      Q r1 v1)) ∧
    (¬ (v (a0 + 6) a2) = (v (a0 + 7) a2) →
    zCL a0 = 11 ∧ zCL (a0 + 6) = 20 ∧ (0 ≤ a2 ∧ a2 < zLN (a0 + 6)) ∧ zCL a0 = 11 ∧ zCL (a0 + 7) = 20 ∧ (0 ≤ a2 ∧ a2 < zLN (a0 + 7)) ∧ zCL a0 = 11 ∧ zC l G 1 d h_M_workOut [(2, a0), (0, a1), (0, v (a0 + 6) a2), (0, v (a0 + 7) a2)] v 115 (fun r2 v2 =>
      ((r2 = 0 →
      zI (a2 + 1) ∧ K 4 [(2, a0), (0, a1), (0, a2 + 1)] [] v2 115) ∧
      (¬ r2 = 0 →
      zCL a0 = 11 ∧ zCL (a0 + 7) = 20 ∧ (0 ≤ a2 ∧ a2 < zLN (a0 + 7)) ∧ zCL a0 = 11 ∧ zCL (a0 + 8) = 20 ∧ (0 ≤ a2 ∧ a2 < zLN (a0 + 8)) ∧ zCL a0 = 11 ∧ zC l G 1 d h_M_workOut [(2, a0), (0, a1), (0, v2 (a0 + 7) a2), (0, v2 (a0 + 8) a2)] v2 115 (fun r3 v3 =>
        Q r3 v3))))))))) : zx l G 1 (d + 1) h_M_worthOf k_M_worthOf 115 Q QX K 300 (k_M_worthOf.drop 4) [(2, a0), (0, a1), (0, a2)] [] v 115 := h
set_option maxRecDepth 100000 in
theorem sg_M_number_0 {l : Launch} {G : zG} {d : Nat} {Q : Int → zH → Prop} {QX : Nat → zH → Prop} {K : Nat → List zV → List zV → zH → Nat → Prop} {a0 a1 a2 : Int} {v : zH} (h : zCL a0 = 11 ∧ zC l G 1 d h_M_look [(2, a0)] v 115 (fun r1 v1 =>
  zC l G 1 d h_M_isDigit [(0, r1)] v1 115 (fun r2 v2 =>
  ((¬ r2 = 0 →
  zCL a0 = 11 ∧ zC l G 1 d h_M_here [(2, a0)] v2 115 (fun r3 v3 =>
    zI (r3 - 48) ∧ zCL a0 = 11 ∧ zI ((v3 a0 3) + 1) ∧ zCL a0 = 11 ∧ zCL a0 = 11 ∧ zC l G 1 d h_M_here [(2, a0)] (zupd v3 a0 3 ((v3 a0 3) + 1)) 115 (fun r4 v4 =>
    zC l G 1 d h_M_isDigit [(0, r4)] v4 115 (fun r5 v5 =>
    ((r5 = 0 →
    zCL a0 = 11 ∧ zC l G 1 d h_M_here [(2, a0)] v5 115 (fun r6 v6 =>
      zC l G 1 d h_M_isDigit [(0, r6)] v6 115 (fun r7 v7 =>
      ((r7 = 0 →
      zC l G 1 d h_M_in [(0, r3 - 48), (0, a1), (0, a2)] v7 115 (fun r8 v8 =>
        ((¬ r8 = 0 →
        Q (r3 - 48) v8) ∧
        (r8 = 0 →
        zCL a0 = 11 ∧ zI ((v8 a0 3) - 1) ∧ zCL a0 = 11 ∧ zCL a0 = 11 ∧ zC l G 1 d h_M_bad [(2, a0)] (zupd v8 a0 3 ((v8 a0 3) - 1)) 115 (fun _ v9 =>
          Q (r3 - 48) v9))))) ∧
      (¬ r7 = 0 →
      zCL a0 = 11 ∧ zC l G 1 d h_M_bad [(2, a0)] v7 115 (fun _ v10 =>
        Q (r3 - 48) v10)))))) ∧
    (¬ r5 = 0 →
    zI (10 * (r3 - 48)) ∧ zCL a0 = 11 ∧ zC l G 1 d h_M_here [(2, a0)] v5 115 (fun r11 v11 =>
      zI ((10 * (r3 - 48)) + r11) ∧ zI (((10 * (r3 - 48)) + r11) - 48) ∧ zCL a0 = 11 ∧ zI ((v11 a0 3) + 1) ∧ zCL a0 = 11 ∧ zCL a0 = 11 ∧ zC l G 1 d h_M_here [(2, a0)] (zupd v11 a0 3 ((v11 a0 3) + 1)) 115 (fun r12 v12 =>
      zC l G 1 d h_M_isDigit [(0, r12)] v12 115 (fun r13 v13 =>
      ((r13 = 0 →
      zC l G 1 d h_M_in [(0, ((10 * (r3 - 48)) + r11) - 48), (0, a1), (0, a2)] v13 115 (fun r14 v14 =>
        ((¬ r14 = 0 →
        Q (((10 * (r3 - 48)) + r11) - 48) v14) ∧
        (r14 = 0 →
        zCL a0 = 11 ∧ zI ((v14 a0 3) - 1) ∧ zCL a0 = 11 ∧ zCL a0 = 11 ∧ zC l G 1 d h_M_bad [(2, a0)] (zupd v14 a0 3 ((v14 a0 3) - 1)) 115 (fun _ v15 =>
          Q (((10 * (r3 - 48)) + r11) - 48) v15))))) ∧
      (¬ r13 = 0 →
      zCL a0 = 11 ∧ zC l G 1 d h_M_bad [(2, a0)] v13 115 (fun _ v16 =>
        Q (((10 * (r3 - 48)) + r11) - 48) v16)))))))))))) ∧
  (r2 = 0 →
  zCL a0 = 11 ∧ zC l G 1 d h_M_bad [(2, a0)] v2 115 (fun _ v17 =>
    Q a1 v17)))))) : zx l G 1 (d + 1) h_M_number k_M_number 115 Q QX K 300 (k_M_number.drop 0) [(2, a0), (0, a1), (0, a2), (3, 0)] [] v 115 := h
set_option maxRecDepth 100000 in
theorem sg_M_itemOf_0 {l : Launch} {G : zG} {d : Nat} {Q : Int → zH → Prop} {QX : Nat → zH → Prop} {K : Nat → List zV → List zV → zH → Nat → Prop} {a0 a1 : Int} {v : zH} (h : ((¬ a0 = 115 →
  ((¬ a0 = 111 →
    ((¬ a1 = 119 →
      ((¬ a1 = 102 →
        Q ((-1)) v) ∧
        (a1 = 102 →
        Q 1 v))) ∧
      (a1 = 119 →
      Q 0 v))) ∧
    (a0 = 111 →
    ((¬ a1 = 114 →
      ((¬ a1 = 99 →
        ((¬ a1 = 102 →
          ((¬ a1 = 117 →
            ((¬ a1 = 104 →
              Q ((-1)) v) ∧
              (a1 = 104 →
              Q 4 v))) ∧
            (a1 = 117 →
            Q 3 v))) ∧
          (a1 = 102 →
          Q 2 v))) ∧
        (a1 = 99 →
        Q 1 v))) ∧
      (a1 = 114 →
      Q 0 v))))) ∧
  (a0 = 115 →
  ((¬ a1 = 116 →
    ((¬ a1 = 104 →
      ((¬ a1 = 103 →
        Q ((-1)) v) ∧
        (a1 = 103 →
        Q 2 v))) ∧
      (a1 = 104 →
      Q 1 v))) ∧
    (a1 = 116 →
    Q 0 v))))) : zx l G 1 (d + 1) h_M_itemOf k_M_itemOf 115 Q QX K 300 (k_M_itemOf.drop 0) [(0, a0), (0, a1)] [] v 115 := h
set_option maxRecDepth 100000 in
theorem sg_M_highest_0 {l : Launch} {G : zG} {d : Nat} {Q : Int → zH → Prop} {QX : Nat → zH → Prop} {K : Nat → List zV → List zV → zH → Nat → Prop} {a0 a1 : Int} {v : zH} (h : ((¬ a0 = 115 →
  ((¬ a0 = 111 →
    ((¬ a1 = 0 →
      Q 9 v) ∧
      (a1 = 0 →
      Q 99 v))) ∧
    (a0 = 111 →
    ((¬ a1 = 0 →
      ((¬ a1 = 1 →
        ((4 ≤ a1 →
          Q 20 v) ∧
          (a1 < 4 →
          Q 23 v))) ∧
        (a1 = 1 →
        Q 5 v))) ∧
      (a1 = 0 →
      Q 3 v))))) ∧
  (a0 = 115 →
  ((¬ a1 = 0 →
    ((¬ a1 = 1 →
      Q 10 v) ∧
      (a1 = 1 →
      Q 99 v))) ∧
    (a1 = 0 →
    Q 9 v))))) : zx l G 1 (d + 1) h_M_highest k_M_highest 115 Q QX K 300 (k_M_highest.drop 0) [(0, a0), (0, a1)] [] v 115 := h
set_option maxRecDepth 100000 in
theorem sg_M_usual_0 {l : Launch} {G : zG} {d : Nat} {Q : Int → zH → Prop} {QX : Nat → zH → Prop} {K : Nat → List zV → List zV → zH → Nat → Prop} {a0 a1 : Int} {v : zH} (h : ((¬ a0 = 115 →
  ((¬ a0 = 111 →
    ((¬ a1 = 0 →
      Q 0 v) ∧
      (a1 = 0 →
      Q 5 v))) ∧
    (a0 = 111 →
    ((2 ≤ a1 →
      ((¬ a1 = 2 →
        ((¬ a1 = 3 →
          Q 8 v) ∧
          (a1 = 3 →
          Q 7 v))) ∧
        (a1 = 2 →
        Q 4 v))) ∧
      (a1 < 2 →
      Q 0 v))))) ∧
  (a0 = 115 →
  ((¬ a1 = 1 →
    Q 3 v) ∧
    (a1 = 1 →
    Q 60 v))))) : zx l G 1 (d + 1) h_M_usual k_M_usual 115 Q QX K 300 (k_M_usual.drop 0) [(0, a0), (0, a1)] [] v 115 := h
set_option maxRecDepth 100000 in
theorem sg_M_items_0 {l : Launch} {G : zG} {d : Nat} {Q : Int → zH → Prop} {QX : Nat → zH → Prop} {K : Nat → List zV → List zV → zH → Nat → Prop} {a0 a1 a2 a3 a4 : Int} {v : zH} (h : K 2 [(2, a0), (0, a1), (2, a2), (0, a3), (0, a4), (0, 0), (3, 0)] [] v 115) : zx l G 1 (d + 1) h_M_items k_M_items 115 Q QX K 300 (k_M_items.drop 0) [(2, a0), (0, a1), (2, a2), (0, a3), (0, a4), (3, 0), (3, 0)] [] v 115 := h
set_option maxRecDepth 100000 in
theorem sg_M_items_2 {l : Launch} {G : zG} {d : Nat} {Q : Int → zH → Prop} {QX : Nat → zH → Prop} {K : Nat → List zV → List zV → zH → Nat → Prop} {a0 a1 a2 a3 a4 a5 : Int} {v : zH} (h : ((a4 ≤ a5 →
  zCL a0 = 11 ∧ zC l G 1 d h_M_look [(2, a0)] v 115 (fun r1 v1 =>
    zC l G 1 d h_M_itemOf [(0, a1), (0, r1)] v1 115 (fun r2 v2 =>
    K 22 [(2, a0), (0, a1), (2, a2), (0, a3), (3, 0), (0, 0), (0, r2)] [] v2 115))) ∧
  (a5 < a4 →
  zI (a3 + a5) ∧ zC l G 1 d h_M_usual [(0, a1), (0, a5)] v 115 (fun r3 v3 =>
    zCL a2 = 20 ∧ (0 ≤ (a3 + a5) ∧ (a3 + a5) < zLN a2) ∧ zI (a5 + 1) ∧ K 2 [(2, a0), (0, a1), (2, a2), (0, a3), (0, a4), (0, a5 + 1), (3, 0)] [] (zupd v3 a2 (a3 + a5) r3) 115)))) : zx l G 1 (d + 1) h_M_items k_M_items 115 Q QX K 300 (k_M_items.drop 2) [(2, a0), (0, a1), (2, a2), (0, a3), (0, a4), (0, a5), (3, 0)] [] v 115 := h
set_option maxRecDepth 100000 in
theorem sg_M_items_22 {l : Launch} {G : zG} {d : Nat} {Q : Int → zH → Prop} {QX : Nat → zH → Prop} {K : Nat → List zV → List zV → zH → Nat → Prop} {a0 a1 a2 a3 a5 a6 : Int} {v : zH} (h : zCL a0 = 11 ∧ ((¬ (v a0 4) = ((-1)) →
  Q 0 v) ∧
  ((v a0 4) = ((-1)) →
  ((a6 = ((-1)) →
    Q 0 v) ∧
    (¬ a6 = ((-1)) →
    zC l G 1 d h_M_has [(0, a5), (0, a6)] v 115 (fun r1 v1 =>
      ((¬ r1 = 0 →
      Q 0 v1) ∧
      (r1 = 0 →
      zCL a0 = 11 ∧ zI ((v1 a0 3) + 1) ∧ zCL a0 = 11 ∧ zI (a3 + a6) ∧ ((¬ a1 = 115 →
        zC l G 1 d h_M_highest [(0, a1), (0, a6)] (zupd v1 a0 3 ((v1 a0 3) + 1)) 115 (fun r2 v2 =>
          zCL a0 = 11 ∧ zC l G 1 d h_M_number [(2, a0), (0, 0), (0, r2)] v2 115 (fun r3 v3 =>
          zCL a2 = 20 ∧ (0 ≤ (a3 + a6) ∧ (a3 + a6) < zLN a2) ∧ zCL a0 = 11 ∧ ((¬ ((zupd v3 a2 (a3 + a6) r3) a0 4) = ((-1)) →
          K 22 [(2, a0), (0, a1), (2, a2), (0, a3), (3, 0), (0, zor a5 (zshl 1 a6)), (0, (-1))] [] (zupd v3 a2 (a3 + a6) r3) 115) ∧
          (((zupd v3 a2 (a3 + a6) r3) a0 4) = ((-1)) →
          zCL a0 = 11 ∧ zC l G 1 d h_M_look [(2, a0)] (zupd v3 a2 (a3 + a6) r3) 115 (fun r4 v4 =>
            zC l G 1 d h_M_itemOf [(0, a1), (0, r4)] v4 115 (fun r5 v5 =>
            K 22 [(2, a0), (0, a1), (2, a2), (0, a3), (3, 0), (0, zor a5 (zshl 1 a6)), (0, r5)] [] v5 115))))))) ∧
        (a1 = 115 →
        ((¬ a6 = 1 →
          zC l G 1 d h_M_highest [(0, a1), (0, a6)] (zupd v1 a0 3 ((v1 a0 3) + 1)) 115 (fun r6 v6 =>
            zCL a0 = 11 ∧ zC l G 1 d h_M_number [(2, a0), (0, 0), (0, r6)] v6 115 (fun r7 v7 =>
            zCL a2 = 20 ∧ (0 ≤ (a3 + a6) ∧ (a3 + a6) < zLN a2) ∧ zCL a0 = 11 ∧ ((¬ ((zupd v7 a2 (a3 + a6) r7) a0 4) = ((-1)) →
            K 22 [(2, a0), (0, a1), (2, a2), (0, a3), (3, 0), (0, zor a5 (zshl 1 a6)), (0, (-1))] [] (zupd v7 a2 (a3 + a6) r7) 115) ∧
            (((zupd v7 a2 (a3 + a6) r7) a0 4) = ((-1)) →
            zCL a0 = 11 ∧ zC l G 1 d h_M_look [(2, a0)] (zupd v7 a2 (a3 + a6) r7) 115 (fun r8 v8 =>
              zC l G 1 d h_M_itemOf [(0, a1), (0, r8)] v8 115 (fun r9 v9 =>
              K 22 [(2, a0), (0, a1), (2, a2), (0, a3), (3, 0), (0, zor a5 (zshl 1 a6)), (0, r9)] [] v9 115))))))) ∧
          (a6 = 1 →
          zC l G 1 d h_M_highest [(0, a1), (0, a6)] (zupd v1 a0 3 ((v1 a0 3) + 1)) 115 (fun r10 v10 =>
            zCL a0 = 11 ∧ zC l G 1 d h_M_number [(2, a0), (0, 1), (0, r10)] v10 115 (fun r11 v11 =>
            zCL a2 = 20 ∧ (0 ≤ (a3 + a6) ∧ (a3 + a6) < zLN a2) ∧ zCL a0 = 11 ∧ ((¬ ((zupd v11 a2 (a3 + a6) r11) a0 4) = ((-1)) →
            K 22 [(2, a0), (0, a1), (2, a2), (0, a3), (3, 0), (0, zor a5 (zshl 1 a6)), (0, (-1))] [] (zupd v11 a2 (a3 + a6) r11) 115) ∧
            (((zupd v11 a2 (a3 + a6) r11) a0 4) = ((-1)) →
            zCL a0 = 11 ∧ zC l G 1 d h_M_look [(2, a0)] (zupd v11 a2 (a3 + a6) r11) 115 (fun r12 v12 =>
              zC l G 1 d h_M_itemOf [(0, a1), (0, r12)] v12 115 (fun r13 v13 =>
              K 22 [(2, a0), (0, a1), (2, a2), (0, a3), (3, 0), (0, zor a5 (zshl 1 a6)), (0, r13)] [] v13 115)))))))))))))))))) : zx l G 1 (d + 1) h_M_items k_M_items 115 Q QX K 300 (k_M_items.drop 22) [(2, a0), (0, a1), (2, a2), (0, a3), (3, 0), (0, a5), (0, a6)] [] v 115 := h
set_option maxRecDepth 100000 in
theorem sg_M_rowText_0 {l : Launch} {G : zG} {d : Nat} {Q : Int → zH → Prop} {QX : Nat → zH → Prop} {K : Nat → List zV → List zV → zH → Nat → Prop} {a0 : Int} {v : zH} (h : zCL a0 = 11 ∧ zC l G 1 d h_M_look [(2, a0)] v 115 (fun r1 v1 =>
  zI (r1 - 65) ∧ zC l G 1 d h_M_in [(0, r1 - 65), (0, 0), (0, 3)] v1 115 (fun r2 v2 =>
  ((¬ r2 = 0 →
  K 15 [(2, a0), (0, 0), (0, r1 - 65)] [] v2 115) ∧
  (r2 = 0 →
  zCL a0 = 11 ∧ zC l G 1 d h_M_bad [(2, a0)] v2 115 (fun _ v3 =>
    Q 0 v3)))))) : zx l G 1 (d + 1) h_M_rowText k_M_rowText 115 Q QX K 300 (k_M_rowText.drop 0) [(2, a0), (3, 0), (3, 0)] [] v 115 := h
set_option maxRecDepth 100000 in
theorem sg_M_rowText_15 {l : Launch} {G : zG} {d : Nat} {Q : Int → zH → Prop} {QX : Nat → zH → Prop} {K : Nat → List zV → List zV → zH → Nat → Prop} {a0 a1 a2 : Int} {v : zH} (h : zCL a0 = 11 ∧ ((¬ (v a0 4) = ((-1)) →
  zCL a0 = 11 ∧ zCL a0 = 11 ∧ zCL (a0 + 15) = 20 ∧ (0 ≤ (v a0 23) ∧ (v a0 23) < zLN (a0 + 15)) ∧ zCL a0 = 11 ∧ zI (((zupd v (a0 + 15) (v a0 23) a1) a0 23) + 1) ∧ zCL a0 = 11 ∧ Q 0 (zupd (zupd v (a0 + 15) (v a0 23) a1) a0 23 (((zupd v (a0 + 15) (v a0 23) a1) a0 23) + 1))) ∧
  ((v a0 4) = ((-1)) →
  zC l G 1 d h_M_in [(0, a2), (0, 0), (0, 3)] v 115 (fun r1 v1 =>
    ((r1 = 0 →
    zCL a0 = 11 ∧ zCL a0 = 11 ∧ zCL (a0 + 15) = 20 ∧ (0 ≤ (v1 a0 23) ∧ (v1 a0 23) < zLN (a0 + 15)) ∧ zCL a0 = 11 ∧ zI (((zupd v1 (a0 + 15) (v1 a0 23) a1) a0 23) + 1) ∧ zCL a0 = 11 ∧ Q 0 (zupd (zupd v1 (a0 + 15) (v1 a0 23) a1) a0 23 (((zupd v1 (a0 + 15) (v1 a0 23) a1) a0 23) + 1))) ∧
    (¬ r1 = 0 →
    ((¬ a1 = 6 →
      zCL a0 = 11 ∧ zCL a0 = 11 ∧ zI (10 * (v1 a0 23)) ∧ zI ((10 * (v1 a0 23)) + a1) ∧ zCL (a0 + 14) = 20 ∧ (0 ≤ ((10 * (v1 a0 23)) + a1) ∧ ((10 * (v1 a0 23)) + a1) < zLN (a0 + 14)) ∧ zI (a1 + 1) ∧ zCL a0 = 11 ∧ zI (((zupd v1 (a0 + 14) ((10 * (v1 a0 23)) + a1) a2) a0 3) + 1) ∧ zCL a0 = 11 ∧ zCL a0 = 11 ∧ zC l G 1 d h_M_look [(2, a0)] (zupd (zupd v1 (a0 + 14) ((10 * (v1 a0 23)) + a1) a2) a0 3 (((zupd v1 (a0 + 14) ((10 * (v1 a0 23)) + a1) a2) a0 3) + 1)) 115 (fun r2 v2 =>
        zI (r2 - 65) ∧ K 15 [(2, a0), (0, a1 + 1), (0, r2 - 65)] [] v2 115)) ∧
      (a1 = 6 →
      zCL a0 = 11 ∧ zC l G 1 d h_M_bad [(2, a0)] v1 115 (fun _ v3 =>
        Q 0 v3))))))))) : zx l G 1 (d + 1) h_M_rowText k_M_rowText 115 Q QX K 300 (k_M_rowText.drop 15) [(2, a0), (0, a1), (0, a2)] [] v 115 := h
set_option maxRecDepth 100000 in
theorem sg_M_clauseText_0 {l : Launch} {G : zG} {d : Nat} {Q : Int → zH → Prop} {QX : Nat → zH → Prop} {K : Nat → List zV → List zV → zH → Nat → Prop} {a0 : Int} {v : zH} (h : zCL a0 = 11 ∧ zC l G 1 d h_M_look [(2, a0)] v 115 (fun r1 v1 =>
  ((¬ r1 = 115 →
  ((¬ r1 = 108 →
    ((¬ r1 = 111 →
      ((¬ r1 = 110 →
        zCL a0 = 11 ∧ zC l G 1 d h_M_bad [(2, a0)] v1 115 (fun _ v2 =>
          Q 0 v2)) ∧
        (r1 = 110 →
        zCL a0 = 11 ∧ ((5 ≤ (v1 a0 25) →
          zCL a0 = 11 ∧ zC l G 1 d h_M_bad [(2, a0)] v1 115 (fun _ v3 =>
            Q 0 v3)) ∧
          ((v1 a0 25) < 5 →
          zCL a0 = 11 ∧ zI ((v1 a0 3) + 1) ∧ zCL a0 = 11 ∧ zCL a0 = 11 ∧ zCL a0 = 11 ∧ zI (2 * ((zupd v1 a0 3 ((v1 a0 3) + 1)) a0 25)) ∧ zCL a0 = 11 ∧ zC l G 1 d h_M_items [(2, a0), (0, r1), (2, a0 + 13), (0, 2 * ((zupd v1 a0 3 ((v1 a0 3) + 1)) a0 25)), (0, 2)] (zupd v1 a0 3 ((v1 a0 3) + 1)) 115 (fun _ v4 =>
            zCL a0 = 11 ∧ zI ((v4 a0 25) + 1) ∧ zCL a0 = 11 ∧ Q 0 (zupd v4 a0 25 ((v4 a0 25) + 1)))))))) ∧
      (r1 = 111 →
      zCL a0 = 11 ∧ ((3 ≤ (v1 a0 24) →
        ((¬ r1 = 110 →
          zCL a0 = 11 ∧ zC l G 1 d h_M_bad [(2, a0)] v1 115 (fun _ v5 =>
            Q 0 v5)) ∧
          (r1 = 110 →
          zCL a0 = 11 ∧ ((5 ≤ (v1 a0 25) →
            zCL a0 = 11 ∧ zC l G 1 d h_M_bad [(2, a0)] v1 115 (fun _ v6 =>
              Q 0 v6)) ∧
            ((v1 a0 25) < 5 →
            zCL a0 = 11 ∧ zI ((v1 a0 3) + 1) ∧ zCL a0 = 11 ∧ zCL a0 = 11 ∧ zCL a0 = 11 ∧ zI (2 * ((zupd v1 a0 3 ((v1 a0 3) + 1)) a0 25)) ∧ zCL a0 = 11 ∧ zC l G 1 d h_M_items [(2, a0), (0, r1), (2, a0 + 13), (0, 2 * ((zupd v1 a0 3 ((v1 a0 3) + 1)) a0 25)), (0, 2)] (zupd v1 a0 3 ((v1 a0 3) + 1)) 115 (fun _ v7 =>
              zCL a0 = 11 ∧ zI ((v7 a0 25) + 1) ∧ zCL a0 = 11 ∧ Q 0 (zupd v7 a0 25 ((v7 a0 25) + 1)))))))) ∧
        ((v1 a0 24) < 3 →
        zCL a0 = 11 ∧ zI ((v1 a0 3) + 1) ∧ zCL a0 = 11 ∧ zCL a0 = 11 ∧ zCL a0 = 11 ∧ zI (5 * ((zupd v1 a0 3 ((v1 a0 3) + 1)) a0 24)) ∧ zCL a0 = 11 ∧ zC l G 1 d h_M_items [(2, a0), (0, r1), (2, a0 + 12), (0, 5 * ((zupd v1 a0 3 ((v1 a0 3) + 1)) a0 24)), (0, 5)] (zupd v1 a0 3 ((v1 a0 3) + 1)) 115 (fun _ v8 =>
          zCL a0 = 11 ∧ zI ((v8 a0 24) + 1) ∧ zCL a0 = 11 ∧ Q 0 (zupd v8 a0 24 ((v8 a0 24) + 1)))))))) ∧
    (r1 = 108 →
    zCL a0 = 11 ∧ ((4 ≤ (v1 a0 23) →
      ((¬ r1 = 111 →
        ((¬ r1 = 110 →
          zCL a0 = 11 ∧ zC l G 1 d h_M_bad [(2, a0)] v1 115 (fun _ v9 =>
            Q 0 v9)) ∧
          (r1 = 110 →
          zCL a0 = 11 ∧ ((5 ≤ (v1 a0 25) →
            zCL a0 = 11 ∧ zC l G 1 d h_M_bad [(2, a0)] v1 115 (fun _ v10 =>
              Q 0 v10)) ∧
            ((v1 a0 25) < 5 →
            zCL a0 = 11 ∧ zI ((v1 a0 3) + 1) ∧ zCL a0 = 11 ∧ zCL a0 = 11 ∧ zCL a0 = 11 ∧ zI (2 * ((zupd v1 a0 3 ((v1 a0 3) + 1)) a0 25)) ∧ zCL a0 = 11 ∧ zC l G 1 d h_M_items [(2, a0), (0, r1), (2, a0 + 13), (0, 2 * ((zupd v1 a0 3 ((v1 a0 3) + 1)) a0 25)), (0, 2)] (zupd v1 a0 3 ((v1 a0 3) + 1)) 115 (fun _ v11 =>
              zCL a0 = 11 ∧ zI ((v11 a0 25) + 1) ∧ zCL a0 = 11 ∧ Q 0 (zupd v11 a0 25 ((v11 a0 25) + 1)))))))) ∧
        (r1 = 111 →
        zCL a0 = 11 ∧ ((3 ≤ (v1 a0 24) →
          ((¬ r1 = 110 →
            zCL a0 = 11 ∧ zC l G 1 d h_M_bad [(2, a0)] v1 115 (fun _ v12 =>
              Q 0 v12)) ∧
            (r1 = 110 →
            zCL a0 = 11 ∧ ((5 ≤ (v1 a0 25) →
              zCL a0 = 11 ∧ zC l G 1 d h_M_bad [(2, a0)] v1 115 (fun _ v13 =>
                Q 0 v13)) ∧
              ((v1 a0 25) < 5 →
              zCL a0 = 11 ∧ zI ((v1 a0 3) + 1) ∧ zCL a0 = 11 ∧ zCL a0 = 11 ∧ zCL a0 = 11 ∧ zI (2 * ((zupd v1 a0 3 ((v1 a0 3) + 1)) a0 25)) ∧ zCL a0 = 11 ∧ zC l G 1 d h_M_items [(2, a0), (0, r1), (2, a0 + 13), (0, 2 * ((zupd v1 a0 3 ((v1 a0 3) + 1)) a0 25)), (0, 2)] (zupd v1 a0 3 ((v1 a0 3) + 1)) 115 (fun _ v14 =>
                zCL a0 = 11 ∧ zI ((v14 a0 25) + 1) ∧ zCL a0 = 11 ∧ Q 0 (zupd v14 a0 25 ((v14 a0 25) + 1)))))))) ∧
          ((v1 a0 24) < 3 →
          zCL a0 = 11 ∧ zI ((v1 a0 3) + 1) ∧ zCL a0 = 11 ∧ zCL a0 = 11 ∧ zCL a0 = 11 ∧ zI (5 * ((zupd v1 a0 3 ((v1 a0 3) + 1)) a0 24)) ∧ zCL a0 = 11 ∧ zC l G 1 d h_M_items [(2, a0), (0, r1), (2, a0 + 12), (0, 5 * ((zupd v1 a0 3 ((v1 a0 3) + 1)) a0 24)), (0, 5)] (zupd v1 a0 3 ((v1 a0 3) + 1)) 115 (fun _ v15 =>
            zCL a0 = 11 ∧ zI ((v15 a0 24) + 1) ∧ zCL a0 = 11 ∧ Q 0 (zupd v15 a0 24 ((v15 a0 24) + 1)))))))) ∧
      ((v1 a0 23) < 4 →
      zCL a0 = 11 ∧ zI ((v1 a0 3) + 1) ∧ zCL a0 = 11 ∧ zCL a0 = 11 ∧ zC l G 1 d h_M_rowText [(2, a0)] (zupd v1 a0 3 ((v1 a0 3) + 1)) 115 (fun _ v16 =>
        Q 0 v16)))))) ∧
  (r1 = 115 →
  zCL a0 = 11 ∧ ((4 ≤ (v1 a0 22) →
    ((¬ r1 = 108 →
      ((¬ r1 = 111 →
        ((¬ r1 = 110 →
          zCL a0 = 11 ∧ zC l G 1 d h_M_bad [(2, a0)] v1 115 (fun _ v17 =>
            Q 0 v17)) ∧
          (r1 = 110 →
          zCL a0 = 11 ∧ ((5 ≤ (v1 a0 25) →
            zCL a0 = 11 ∧ zC l G 1 d h_M_bad [(2, a0)] v1 115 (fun _ v18 =>
              Q 0 v18)) ∧
            ((v1 a0 25) < 5 →
            zCL a0 = 11 ∧ zI ((v1 a0 3) + 1) ∧ zCL a0 = 11 ∧ zCL a0 = 11 ∧ zCL a0 = 11 ∧ zI (2 * ((zupd v1 a0 3 ((v1 a0 3) + 1)) a0 25)) ∧ zCL a0 = 11 ∧ zC l G 1 d h_M_items [(2, a0), (0, r1), (2, a0 + 13), (0, 2 * ((zupd v1 a0 3 ((v1 a0 3) + 1)) a0 25)), (0, 2)] (zupd v1 a0 3 ((v1 a0 3) + 1)) 115 (fun _ v19 =>
              zCL a0 = 11 ∧ zI ((v19 a0 25) + 1) ∧ zCL a0 = 11 ∧ Q 0 (zupd v19 a0 25 ((v19 a0 25) + 1)))))))) ∧
        (r1 = 111 →
        zCL a0 = 11 ∧ ((3 ≤ (v1 a0 24) →
          ((¬ r1 = 110 →
            zCL a0 = 11 ∧ zC l G 1 d h_M_bad [(2, a0)] v1 115 (fun _ v20 =>
              Q 0 v20)) ∧
            (r1 = 110 →
            zCL a0 = 11 ∧ ((5 ≤ (v1 a0 25) →
              zCL a0 = 11 ∧ zC l G 1 d h_M_bad [(2, a0)] v1 115 (fun _ v21 =>
                Q 0 v21)) ∧
              ((v1 a0 25) < 5 →
              zCL a0 = 11 ∧ zI ((v1 a0 3) + 1) ∧ zCL a0 = 11 ∧ zCL a0 = 11 ∧ zCL a0 = 11 ∧ zI (2 * ((zupd v1 a0 3 ((v1 a0 3) + 1)) a0 25)) ∧ zCL a0 = 11 ∧ zC l G 1 d h_M_items [(2, a0), (0, r1), (2, a0 + 13), (0, 2 * ((zupd v1 a0 3 ((v1 a0 3) + 1)) a0 25)), (0, 2)] (zupd v1 a0 3 ((v1 a0 3) + 1)) 115 (fun _ v22 =>
                zCL a0 = 11 ∧ zI ((v22 a0 25) + 1) ∧ zCL a0 = 11 ∧ Q 0 (zupd v22 a0 25 ((v22 a0 25) + 1)))))))) ∧
          ((v1 a0 24) < 3 →
          zCL a0 = 11 ∧ zI ((v1 a0 3) + 1) ∧ zCL a0 = 11 ∧ zCL a0 = 11 ∧ zCL a0 = 11 ∧ zI (5 * ((zupd v1 a0 3 ((v1 a0 3) + 1)) a0 24)) ∧ zCL a0 = 11 ∧ zC l G 1 d h_M_items [(2, a0), (0, r1), (2, a0 + 12), (0, 5 * ((zupd v1 a0 3 ((v1 a0 3) + 1)) a0 24)), (0, 5)] (zupd v1 a0 3 ((v1 a0 3) + 1)) 115 (fun _ v23 =>
            zCL a0 = 11 ∧ zI ((v23 a0 24) + 1) ∧ zCL a0 = 11 ∧ Q 0 (zupd v23 a0 24 ((v23 a0 24) + 1)))))))) ∧
      (r1 = 108 →
      zCL a0 = 11 ∧ ((4 ≤ (v1 a0 23) →
        ((¬ r1 = 111 →
          ((¬ r1 = 110 →
            zCL a0 = 11 ∧ zC l G 1 d h_M_bad [(2, a0)] v1 115 (fun _ v24 =>
              Q 0 v24)) ∧
            (r1 = 110 →
            zCL a0 = 11 ∧ ((5 ≤ (v1 a0 25) →
              zCL a0 = 11 ∧ zC l G 1 d h_M_bad [(2, a0)] v1 115 (fun _ v25 =>
                Q 0 v25)) ∧
              ((v1 a0 25) < 5 →
              zCL a0 = 11 ∧ zI ((v1 a0 3) + 1) ∧ zCL a0 = 11 ∧ zCL a0 = 11 ∧ zCL a0 = 11 ∧ zI (2 * ((zupd v1 a0 3 ((v1 a0 3) + 1)) a0 25)) ∧ zCL a0 = 11 ∧ zC l G 1 d h_M_items [(2, a0), (0, r1), (2, a0 + 13), (0, 2 * ((zupd v1 a0 3 ((v1 a0 3) + 1)) a0 25)), (0, 2)] (zupd v1 a0 3 ((v1 a0 3) + 1)) 115 (fun _ v26 =>
                zCL a0 = 11 ∧ zI ((v26 a0 25) + 1) ∧ zCL a0 = 11 ∧ Q 0 (zupd v26 a0 25 ((v26 a0 25) + 1)))))))) ∧
          (r1 = 111 →
          zCL a0 = 11 ∧ ((3 ≤ (v1 a0 24) →
            ((¬ r1 = 110 →
              zCL a0 = 11 ∧ zC l G 1 d h_M_bad [(2, a0)] v1 115 (fun _ v27 =>
                Q 0 v27)) ∧
              (r1 = 110 →
              zCL a0 = 11 ∧ ((5 ≤ (v1 a0 25) →
                zCL a0 = 11 ∧ zC l G 1 d h_M_bad [(2, a0)] v1 115 (fun _ v28 =>
                  Q 0 v28)) ∧
                ((v1 a0 25) < 5 →
                zCL a0 = 11 ∧ zI ((v1 a0 3) + 1) ∧ zCL a0 = 11 ∧ zCL a0 = 11 ∧ zCL a0 = 11 ∧ zI (2 * ((zupd v1 a0 3 ((v1 a0 3) + 1)) a0 25)) ∧ zCL a0 = 11 ∧ zC l G 1 d h_M_items [(2, a0), (0, r1), (2, a0 + 13), (0, 2 * ((zupd v1 a0 3 ((v1 a0 3) + 1)) a0 25)), (0, 2)] (zupd v1 a0 3 ((v1 a0 3) + 1)) 115 (fun _ v29 =>
                  zCL a0 = 11 ∧ zI ((v29 a0 25) + 1) ∧ zCL a0 = 11 ∧ Q 0 (zupd v29 a0 25 ((v29 a0 25) + 1)))))))) ∧
            ((v1 a0 24) < 3 →
            zCL a0 = 11 ∧ zI ((v1 a0 3) + 1) ∧ zCL a0 = 11 ∧ zCL a0 = 11 ∧ zCL a0 = 11 ∧ zI (5 * ((zupd v1 a0 3 ((v1 a0 3) + 1)) a0 24)) ∧ zCL a0 = 11 ∧ zC l G 1 d h_M_items [(2, a0), (0, r1), (2, a0 + 12), (0, 5 * ((zupd v1 a0 3 ((v1 a0 3) + 1)) a0 24)), (0, 5)] (zupd v1 a0 3 ((v1 a0 3) + 1)) 115 (fun _ v30 =>
              zCL a0 = 11 ∧ zI ((v30 a0 24) + 1) ∧ zCL a0 = 11 ∧ Q 0 (zupd v30 a0 24 ((v30 a0 24) + 1)))))))) ∧
        ((v1 a0 23) < 4 →
        zCL a0 = 11 ∧ zI ((v1 a0 3) + 1) ∧ zCL a0 = 11 ∧ zCL a0 = 11 ∧ zC l G 1 d h_M_rowText [(2, a0)] (zupd v1 a0 3 ((v1 a0 3) + 1)) 115 (fun _ v31 =>
          Q 0 v31)))))) ∧
    ((v1 a0 22) < 4 →
    zCL a0 = 11 ∧ zI ((v1 a0 3) + 1) ∧ zCL a0 = 11 ∧ zCL a0 = 11 ∧ zCL a0 = 11 ∧ zI (3 * ((zupd v1 a0 3 ((v1 a0 3) + 1)) a0 22)) ∧ zCL a0 = 11 ∧ zC l G 1 d h_M_items [(2, a0), (0, r1), (2, a0 + 11), (0, 3 * ((zupd v1 a0 3 ((v1 a0 3) + 1)) a0 22)), (0, 3)] (zupd v1 a0 3 ((v1 a0 3) + 1)) 115 (fun _ v32 =>
      zCL a0 = 11 ∧ zI ((v32 a0 22) + 1) ∧ zCL a0 = 11 ∧ Q 0 (zupd v32 a0 22 ((v32 a0 22) + 1))))))))) : zx l G 1 (d + 1) h_M_clauseText k_M_clauseText 115 Q QX K 300 (k_M_clauseText.drop 0) [(2, a0), (3, 0)] [] v 115 := h
set_option maxRecDepth 100000 in
theorem sg_M_isWhole_0 {l : Launch} {G : zG} {d : Nat} {Q : Int → zH → Prop} {QX : Nat → zH → Prop} {K : Nat → List zV → List zV → zH → Nat → Prop} {a0 : Int} {v : zH} (h : zCL a0 = 11 ∧ (((v a0 22) ≤ 0 →
  K 12 [(2, a0), (0, 0), (0, 0), (3, 0)] [] v 115) ∧
  (0 < (v a0 22) →
  zCL a0 = 11 ∧ (((v a0 23) ≤ 0 →
    K 12 [(2, a0), (0, 0), (0, 0), (3, 0)] [] v 115) ∧
    (0 < (v a0 23) →
    K 12 [(2, a0), (0, 1), (0, 0), (3, 0)] [] v 115))))) : zx l G 1 (d + 1) h_M_isWhole k_M_isWhole 115 Q QX K 300 (k_M_isWhole.drop 0) [(2, a0), (3, 0), (3, 0), (3, 0)] [] v 115 := h
set_option maxRecDepth 100000 in
theorem sg_M_isWhole_12 {l : Launch} {G : zG} {d : Nat} {Q : Int → zH → Prop} {QX : Nat → zH → Prop} {K : Nat → List zV → List zV → zH → Nat → Prop} {a0 a1 a2 : Int} {v : zH} (h : zCL a0 = 11 ∧ (((v a0 23) ≤ a2 →
  K 62 [(2, a0), (0, a1), (0, 0), (3, 0)] [] v 115) ∧
  (a2 < (v a0 23) →
  ((a1 = 0 →
    K 33 [(2, a0), (0, 0), (0, a2), (0, 0)] [] v 115) ∧
    (¬ a1 = 0 →
    zCL a0 = 11 ∧ zCL (a0 + 15) = 20 ∧ (0 ≤ a2 ∧ a2 < zLN (a0 + 15)) ∧ zCL a0 = 11 ∧ zCL (a0 + 15) = 20 ∧ (0 ≤ (0 : Int) ∧ 0 < zLN (a0 + 15)) ∧ ((¬ (v (a0 + 15) a2) = (v (a0 + 15) 0) →
      K 33 [(2, a0), (0, 0), (0, a2), (0, 0)] [] v 115) ∧
      ((v (a0 + 15) a2) = (v (a0 + 15) 0) →
      K 33 [(2, a0), (0, 1), (0, a2), (0, 0)] [] v 115))))))) : zx l G 1 (d + 1) h_M_isWhole k_M_isWhole 115 Q QX K 300 (k_M_isWhole.drop 12) [(2, a0), (0, a1), (0, a2), (3, 0)] [] v 115 := h
set_option maxRecDepth 100000 in
theorem sg_M_isWhole_33 {l : Launch} {G : zG} {d : Nat} {Q : Int → zH → Prop} {QX : Nat → zH → Prop} {K : Nat → List zV → List zV → zH → Nat → Prop} {a0 a1 a2 a3 : Int} {v : zH} (h : zCL a0 = 11 ∧ zCL (a0 + 15) = 20 ∧ (0 ≤ a2 ∧ a2 < zLN (a0 + 15)) ∧ (((v (a0 + 15) a2) ≤ a3 →
  zI (a2 + 1) ∧ K 12 [(2, a0), (0, a1), (0, a2 + 1), (3, 0)] [] v 115) ∧
  (a3 < (v (a0 + 15) a2) →
  ((a1 = 0 →
    zI (a3 + 1) ∧ K 33 [(2, a0), (0, 0), (0, a2), (0, a3 + 1)] [] v 115) ∧
    (¬ a1 = 0 →
    zCL a0 = 11 ∧ zI (10 * a2) ∧ zI ((10 * a2) + a3) ∧ zCL (a0 + 14) = 20 ∧ (0 ≤ ((10 * a2) + a3) ∧ ((10 * a2) + a3) < zLN (a0 + 14)) ∧ zCL a0 = 11 ∧ (((v a0 22) ≤ (v (a0 + 14) ((10 * a2) + a3)) →
      zI (a3 + 1) ∧ K 33 [(2, a0), (0, 0), (0, a2), (0, a3 + 1)] [] v 115) ∧
      ((v (a0 + 14) ((10 * a2) + a3)) < (v a0 22) →
      zI (a3 + 1) ∧ K 33 [(2, a0), (0, 1), (0, a2), (0, a3 + 1)] [] v 115))))))) : zx l G 1 (d + 1) h_M_isWhole k_M_isWhole 115 Q QX K 300 (k_M_isWhole.drop 33) [(2, a0), (0, a1), (0, a2), (0, a3)] [] v 115 := h
set_option maxRecDepth 100000 in
theorem sg_M_isWhole_62 {l : Launch} {G : zG} {d : Nat} {Q : Int → zH → Prop} {QX : Nat → zH → Prop} {K : Nat → List zV → List zV → zH → Nat → Prop} {a0 a1 a2 : Int} {v : zH} (h : zCL a0 = 11 ∧ (((v a0 24) ≤ a2 →
  (a1 = 0 ∨ a1 = 1) ∧ Q a1 v) ∧
  (a2 < (v a0 24) →
  ((a1 = 0 →
    zI (a2 + 1) ∧ K 62 [(2, a0), (0, 0), (0, a2 + 1), (3, 0)] [] v 115) ∧
    (¬ a1 = 0 →
    zCL a0 = 11 ∧ zI (5 * a2) ∧ zCL (a0 + 12) = 20 ∧ (0 ≤ (5 * a2) ∧ (5 * a2) < zLN (a0 + 12)) ∧ zCL a0 = 11 ∧ (((v a0 23) ≤ (v (a0 + 12) (5 * a2)) →
      zI (a2 + 1) ∧ K 62 [(2, a0), (0, 0), (0, a2 + 1), (3, 0)] [] v 115) ∧
      ((v (a0 + 12) (5 * a2)) < (v a0 23) →
      zCL a0 = 11 ∧ zI (5 * a2) ∧ zI ((5 * a2) + 1) ∧ zCL (a0 + 12) = 20 ∧ (0 ≤ ((5 * a2) + 1) ∧ ((5 * a2) + 1) < zLN (a0 + 12)) ∧ zCL a0 = 11 ∧ zCL (a0 + 15) = 20 ∧ (0 ≤ (0 : Int) ∧ 0 < zLN (a0 + 15)) ∧ (((v (a0 + 15) 0) ≤ (v (a0 + 12) ((5 * a2) + 1)) →
        zI (a2 + 1) ∧ K 62 [(2, a0), (0, 0), (0, a2 + 1), (3, 0)] [] v 115) ∧
        ((v (a0 + 12) ((5 * a2) + 1)) < (v (a0 + 15) 0) →
        zI (a2 + 1) ∧ K 62 [(2, a0), (0, 1), (0, a2 + 1), (3, 0)] [] v 115))))))))) : zx l G 1 (d + 1) h_M_isWhole k_M_isWhole 115 Q QX K 300 (k_M_isWhole.drop 62) [(2, a0), (0, a1), (0, a2), (3, 0)] [] v 115 := h
set_option maxRecDepth 100000 in
theorem sg_M_readWall_0 {l : Launch} {G : zG} {d : Nat} {Q : Int → zH → Prop} {QX : Nat → zH → Prop} {K : Nat → List zV → List zV → zH → Nat → Prop} {a0 : Int} {v : zH} (h : zCL a0 = 11 ∧ zCL a0 = 11 ∧ zCL a0 = 11 ∧ zCL a0 = 11 ∧ zCL a0 = 11 ∧ zCL a0 = 11 ∧ K 20 [(2, a0), (0, 1)] [] (zupd (zupd (zupd (zupd (zupd (zupd v a0 3 0) a0 4 ((-1))) a0 22 0) a0 23 0) a0 24 0) a0 25 0) 115) : zx l G 1 (d + 1) h_M_readWall k_M_readWall 115 Q QX K 300 (k_M_readWall.drop 0) [(2, a0), (3, 0)] [] v 115 := h
set_option maxRecDepth 100000 in
theorem sg_M_readWall_20 {l : Launch} {G : zG} {d : Nat} {Q : Int → zH → Prop} {QX : Nat → zH → Prop} {K : Nat → List zV → List zV → zH → Nat → Prop} {a0 a1 : Int} {v : zH} (h : ((a1 = 0 →
  zCL a0 = 11 ∧ ((¬ (v a0 4) = ((-1)) →
    zCL a0 = 11 ∧ Q (v a0 4) v) ∧
    ((v a0 4) = ((-1)) →
    zCL a0 = 11 ∧ zC l G 1 d h_M_look [(2, a0)] v 115 (fun r1 v1 =>
      ((¬ r1 = ((-1)) →
      zCL a0 = 11 ∧ zC l G 1 d h_M_bad [(2, a0)] v1 115 (fun _ v2 =>
        zCL a0 = 11 ∧ Q (v2 a0 4) v2)) ∧
      (r1 = ((-1)) →
      zCL a0 = 11 ∧ zC l G 1 d h_M_isWhole [(2, a0)] v1 115 (fun r3 v3 =>
        ((¬ r3 = 0 →
        zCL a0 = 11 ∧ Q (v3 a0 4) v3) ∧
        (r3 = 0 →
        zCL a0 = 11 ∧ zC l G 1 d h_M_bad [(2, a0)] v3 115 (fun _ v4 =>
          zCL a0 = 11 ∧ Q (v4 a0 4) v4)))))))))) ∧
  (¬ a1 = 0 →
  zCL a0 = 11 ∧ ((¬ (v a0 4) = ((-1)) →
    zCL a0 = 11 ∧ ((¬ (v a0 4) = ((-1)) →
      zCL a0 = 11 ∧ Q (v a0 4) v) ∧
      ((v a0 4) = ((-1)) →
      zCL a0 = 11 ∧ zC l G 1 d h_M_look [(2, a0)] v 115 (fun r5 v5 =>
        ((¬ r5 = ((-1)) →
        zCL a0 = 11 ∧ zC l G 1 d h_M_bad [(2, a0)] v5 115 (fun _ v6 =>
          zCL a0 = 11 ∧ Q (v6 a0 4) v6)) ∧
        (r5 = ((-1)) →
        zCL a0 = 11 ∧ zC l G 1 d h_M_isWhole [(2, a0)] v5 115 (fun r7 v7 =>
          ((¬ r7 = 0 →
          zCL a0 = 11 ∧ Q (v7 a0 4) v7) ∧
          (r7 = 0 →
          zCL a0 = 11 ∧ zC l G 1 d h_M_bad [(2, a0)] v7 115 (fun _ v8 =>
            zCL a0 = 11 ∧ Q (v8 a0 4) v8)))))))))) ∧
    ((v a0 4) = ((-1)) →
    zCL a0 = 11 ∧ zC l G 1 d h_M_clauseText [(2, a0)] v 115 (fun _ v9 =>
      zCL a0 = 11 ∧ ((¬ (v9 a0 4) = ((-1)) →
      zCL a0 = 11 ∧ (((0 : Int) = 0 →
        zI ((v9 a0 3) + 0) ∧ zCL a0 = 11 ∧ K 20 [(2, a0), (0, 0)] [] (zupd v9 a0 3 ((v9 a0 3) + 0)) 115) ∧
        (¬ (0 : Int) = 0 →
        zI ((v9 a0 3) + 1) ∧ zCL a0 = 11 ∧ K 20 [(2, a0), (0, 0)] [] (zupd v9 a0 3 ((v9 a0 3) + 1)) 115))) ∧
      ((v9 a0 4) = ((-1)) →
      zCL a0 = 11 ∧ zC l G 1 d h_M_look [(2, a0)] v9 115 (fun r10 v10 =>
        ((¬ r10 = 59 →
        zCL a0 = 11 ∧ (((0 : Int) = 0 →
          zI ((v10 a0 3) + 0) ∧ zCL a0 = 11 ∧ K 20 [(2, a0), (0, 0)] [] (zupd v10 a0 3 ((v10 a0 3) + 0)) 115) ∧
          (¬ (0 : Int) = 0 →
          zI ((v10 a0 3) + 1) ∧ zCL a0 = 11 ∧ K 20 [(2, a0), (0, 0)] [] (zupd v10 a0 3 ((v10 a0 3) + 1)) 115))) ∧
        (r10 = 59 →
        zCL a0 = 11 ∧ (((1 : Int) = 0 →
          zI ((v10 a0 3) + 0) ∧ zCL a0 = 11 ∧ K 20 [(2, a0), (0, 1)] [] (zupd v10 a0 3 ((v10 a0 3) + 0)) 115) ∧
          (¬ (1 : Int) = 0 →
          zI ((v10 a0 3) + 1) ∧ zCL a0 = 11 ∧ K 20 [(2, a0), (0, 1)] [] (zupd v10 a0 3 ((v10 a0 3) + 1)) 115))))))))))))) : zx l G 1 (d + 1) h_M_readWall k_M_readWall 115 Q QX K 300 (k_M_readWall.drop 20) [(2, a0), (0, a1)] [] v 115 := h
set_option maxRecDepth 100000 in
theorem sg_M_fault_0 {l : Launch} {G : zG} {d : Nat} {Q : Int → zH → Prop} {QX : Nat → zH → Prop} {K : Nat → List zV → List zV → zH → Nat → Prop} {a0 a1 : Int} {v : zH} (h : ((¬ a1 = 0 →
  ((¬ a1 = 1 →
    Q ((-2)) v) ∧
    (a1 = 1 →
    zCL a0 = 11 ∧ zC l G 1 d h_M_readLaw [(2, a0), (0, 4)] v 115 (fun r1 v1 =>
      Q r1 v1)))) ∧
  (a1 = 0 →
  zCL a0 = 11 ∧ zC l G 1 d h_M_readWall [(2, a0)] v 115 (fun r2 v2 =>
    Q r2 v2)))) : zx l G 1 (d + 1) h_M_fault k_M_fault 115 Q QX K 300 (k_M_fault.drop 0) [(2, a0), (0, a1)] [] v 115 := h
set_option maxRecDepth 100000 in
theorem sg_M_copy_0 {l : Launch} {G : zG} {d : Nat} {Q : Int → zH → Prop} {QX : Nat → zH → Prop} {K : Nat → List zV → List zV → zH → Nat → Prop} {a0 a1 : Int} {v : zH} (h : K 2 [(2, a0), (2, a1), (0, 0)] [] v 115) : zx l G 1 (d + 1) h_M_copy k_M_copy 115 Q QX K 300 (k_M_copy.drop 0) [(2, a0), (2, a1), (3, 0)] [] v 115 := h
set_option maxRecDepth 100000 in
theorem sg_M_copy_2 {l : Launch} {G : zG} {d : Nat} {Q : Int → zH → Prop} {QX : Nat → zH → Prop} {K : Nat → List zV → List zV → zH → Nat → Prop} {a0 a1 a2 : Int} {v : zH} (h : (zCL a0 = 20 ∨ zCL a0 = 21) ∧ (((zLN a0) ≤ a2 →
  Q 0 v) ∧
  (a2 < (zLN a0) →
  zCL a0 = 20 ∧ (0 ≤ a2 ∧ a2 < zLN a0) ∧ zCL a1 = 20 ∧ (0 ≤ a2 ∧ a2 < zLN a1) ∧ zI (a2 + 1) ∧ K 2 [(2, a0), (2, a1), (0, a2 + 1)] [] (zupd v a1 a2 (v a0 a2)) 115))) : zx l G 1 (d + 1) h_M_copy k_M_copy 115 Q QX K 300 (k_M_copy.drop 2) [(2, a0), (2, a1), (0, a2)] [] v 115 := h
set_option maxRecDepth 100000 in
theorem sg_M_takeWall_0 {l : Launch} {G : zG} {d : Nat} {Q : Int → zH → Prop} {QX : Nat → zH → Prop} {K : Nat → List zV → List zV → zH → Nat → Prop} {a0 : Int} {v : zH} (h : zCL a0 = 11 ∧ zCL a0 = 11 ∧ zCL a0 = 11 ∧ zCL a0 = 11 ∧ zCL a0 = 11 ∧ zCL (a0 + 15) = 20 ∧ (0 ≤ (0 : Int) ∧ 0 < zLN (a0 + 15)) ∧ zCL a0 = 11 ∧ zCL a0 = 11 ∧ zCL a0 = 11 ∧ zCL a0 = 11 ∧ zCL a0 = 11 ∧ zCL a0 = 11 ∧ zCL a0 = 11 ∧ zC l G 1 d h_M_copy [(2, a0 + 11), (2, a0 + 16)] (zupd (zupd (zupd (zupd (zupd v a0 30 (v a0 22)) a0 31 ((zupd v a0 30 (v a0 22)) a0 23)) a0 32 ((zupd (zupd v a0 30 (v a0 22)) a0 31 ((zupd v a0 30 (v a0 22)) a0 23)) (a0 + 15) 0)) a0 33 ((zupd (zupd (zupd v a0 30 (v a0 22)) a0 31 ((zupd v a0 30 (v a0 22)) a0 23)) a0 32 ((zupd (zupd v a0 30 (v a0 22)) a0 31 ((zupd v a0 30 (v a0 22)) a0 23)) (a0 + 15) 0)) a0 24)) a0 34 ((zupd (zupd (zupd (zupd v a0 30 (v a0 22)) a0 31 ((zupd v a0 30 (v a0 22)) a0 23)) a0 32 ((zupd (zupd v a0 30 (v a0 22)) a0 31 ((zupd v a0 30 (v a0 22)) a0 23)) (a0 + 15) 0)) a0 33 ((zupd (zupd (zupd v a0 30 (v a0 22)) a0 31 ((zupd v a0 30 (v a0 22)) a0 23)) a0 32 ((zupd (zupd v a0 30 (v a0 22)) a0 31 ((zupd v a0 30 (v a0 22)) a0 23)) (a0 + 15) 0)) a0 24)) a0 25)) 115 (fun _ v1 =>
  zCL a0 = 11 ∧ zCL a0 = 11 ∧ zC l G 1 d h_M_copy [(2, a0 + 12), (2, a0 + 17)] v1 115 (fun _ v2 =>
  zCL a0 = 11 ∧ zCL a0 = 11 ∧ zC l G 1 d h_M_copy [(2, a0 + 13), (2, a0 + 18)] v2 115 (fun _ v3 =>
  zCL a0 = 11 ∧ zCL a0 = 11 ∧ zC l G 1 d h_M_copy [(2, a0 + 14), (2, a0 + 19)] v3 115 (fun _ v4 =>
  K 44 [(2, a0), (0, 0)] [] v4 115))))) : zx l G 1 (d + 1) h_M_takeWall k_M_takeWall 115 Q QX K 300 (k_M_takeWall.drop 0) [(2, a0), (3, 0)] [] v 115 := h
set_option maxRecDepth 100000 in
theorem sg_M_takeWall_44 {l : Launch} {G : zG} {d : Nat} {Q : Int → zH → Prop} {QX : Nat → zH → Prop} {K : Nat → List zV → List zV → zH → Nat → Prop} {a0 a1 : Int} {v : zH} (h : ((36 ≤ a1 →
  zCL a0 = 11 ∧ zCL a0 = 11 ∧ zCL a0 = 11 ∧ zCL a0 = 11 ∧ zCL a0 = 11 ∧ ((0 : Int) = 0 ∨ (0 : Int) = 1) ∧ zCL a0 = 11 ∧ zCL a0 = 11 ∧ zI (((zupd (zupd (zupd (zupd (zupd v a0 36 0) a0 37 0) a0 56 0) a0 46 0) a0 62 0) a0 31) * ((zupd (zupd (zupd (zupd (zupd v a0 36 0) a0 37 0) a0 56 0) a0 46 0) a0 62 0) a0 32)) ∧ Q (((zupd (zupd (zupd (zupd (zupd v a0 36 0) a0 37 0) a0 56 0) a0 46 0) a0 62 0) a0 31) * ((zupd (zupd (zupd (zupd (zupd v a0 36 0) a0 37 0) a0 56 0) a0 46 0) a0 62 0) a0 32)) (zupd (zupd (zupd (zupd (zupd v a0 36 0) a0 37 0) a0 56 0) a0 46 0) a0 62 0)) ∧
  (a1 < 36 →
  zCL a0 = 11 ∧ zCL (a0 + 20) = 20 ∧ (0 ≤ a1 ∧ a1 < zLN (a0 + 20)) ∧ zI (a1 + 1) ∧ K 44 [(2, a0), (0, a1 + 1)] [] (zupd v (a0 + 20) a1 0) 115))) : zx l G 1 (d + 1) h_M_takeWall k_M_takeWall 115 Q QX K 300 (k_M_takeWall.drop 44) [(2, a0), (0, a1)] [] v 115 := h
set_option maxRecDepth 100000 in
theorem sg_M_text_0 {l : Launch} {G : zG} {d : Nat} {Q : Int → zH → Prop} {QX : Nat → zH → Prop} {K : Nat → List zV → List zV → zH → Nat → Prop} {a0 a1 : Int} {v : zH} (h : ((¬ a1 = 0 →
  ((¬ a1 = 1 →
    Q ((-1)) v) ∧
    (a1 = 1 →
    zCL a0 = 11 ∧ ((4 ≤ (v a0 13) →
      Q ((-1)) v) ∧
      ((v a0 13) < 4 →
      zCL a0 = 11 ∧ zCL a0 = 11 ∧ zC l G 1 d h_M_readLaw [(2, a0), (0, v a0 13)] v 115 (fun r1 v1 =>
        ((¬ r1 = ((-1)) →
        Q ((-1)) v1) ∧
        (r1 = ((-1)) →
        zCL a0 = 11 ∧ zCL a0 = 11 ∧ zI (((zupd v1 a0 2 0) a0 13) + 1) ∧ zCL a0 = 11 ∧ zCL a0 = 11 ∧ zI (((zupd (zupd v1 a0 2 0) a0 13 (((zupd v1 a0 2 0) a0 13) + 1)) a0 13) - 1) ∧ Q (((zupd (zupd v1 a0 2 0) a0 13 (((zupd v1 a0 2 0) a0 13) + 1)) a0 13) - 1) (zupd (zupd v1 a0 2 0) a0 13 (((zupd v1 a0 2 0) a0 13) + 1)))))))))) ∧
  (a1 = 0 →
  zCL a0 = 11 ∧ zC l G 1 d h_M_readWall [(2, a0)] v 115 (fun r2 v2 =>
    ((¬ r2 = ((-1)) →
    ((¬ a1 = 1 →
      Q ((-1)) v2) ∧
      (a1 = 1 →
      zCL a0 = 11 ∧ ((4 ≤ (v2 a0 13) →
        Q ((-1)) v2) ∧
        ((v2 a0 13) < 4 →
        zCL a0 = 11 ∧ zCL a0 = 11 ∧ zC l G 1 d h_M_readLaw [(2, a0), (0, v2 a0 13)] v2 115 (fun r3 v3 =>
          ((¬ r3 = ((-1)) →
          Q ((-1)) v3) ∧
          (r3 = ((-1)) →
          zCL a0 = 11 ∧ zCL a0 = 11 ∧ zI (((zupd v3 a0 2 0) a0 13) + 1) ∧ zCL a0 = 11 ∧ zCL a0 = 11 ∧ zI (((zupd (zupd v3 a0 2 0) a0 13 (((zupd v3 a0 2 0) a0 13) + 1)) a0 13) - 1) ∧ Q (((zupd (zupd v3 a0 2 0) a0 13 (((zupd v3 a0 2 0) a0 13) + 1)) a0 13) - 1) (zupd (zupd v3 a0 2 0) a0 13 (((zupd v3 a0 2 0) a0 13) + 1)))))))))) ∧
    (r2 = ((-1)) →
    zCL a0 = 11 ∧ zCL a0 = 11 ∧ zC l G 1 d h_M_takeWall [(2, a0)] (zupd v2 a0 2 0) 115 (fun r4 v4 =>
      Q r4 v4))))))) : zx l G 1 (d + 1) h_M_text k_M_text 115 Q QX K 300 (k_M_text.drop 0) [(2, a0), (0, a1)] [] v 115 := h
set_option maxRecDepth 100000 in
theorem sg_M_isCell_0 {l : Launch} {G : zG} {d : Nat} {Q : Int → zH → Prop} {QX : Nat → zH → Prop} {K : Nat → List zV → List zV → zH → Nat → Prop} {a0 a1 : Int} {v : zH} (h : ((a1 < 0 →
  ((0 : Int) = 0 ∨ (0 : Int) = 1) ∧ Q 0 v) ∧
  (0 ≤ a1 →
  zCL a0 = 11 ∧ (((v a0 31) ≤ (a1.tdiv 10) →
    ((0 : Int) = 0 ∨ (0 : Int) = 1) ∧ Q 0 v) ∧
    ((a1.tdiv 10) < (v a0 31) →
    zCL a0 = 11 ∧ (((v a0 32) ≤ (a1.tmod 10) →
      ((0 : Int) = 0 ∨ (0 : Int) = 1) ∧ Q 0 v) ∧
      ((a1.tmod 10) < (v a0 32) →
      ((1 : Int) = 0 ∨ (1 : Int) = 1) ∧ Q 1 v))))))) : zx l G 1 (d + 1) h_M_isCell k_M_isCell 115 Q QX K 300 (k_M_isCell.drop 0) [(2, a0), (0, a1)] [] v 115 := h
set_option maxRecDepth 100000 in
theorem sg_M_ofStone_0 {l : Launch} {G : zG} {d : Nat} {Q : Int → zH → Prop} {QX : Nat → zH → Prop} {K : Nat → List zV → List zV → zH → Nat → Prop} {a0 a1 a2 : Int} {v : zH} (h : zCL a0 = 11 ∧ zCL a0 = 11 ∧ zCL (a0 + 19) = 20 ∧ (0 ≤ a1 ∧ a1 < zLN (a0 + 19)) ∧ zI (3 * (v (a0 + 19) a1)) ∧ zI ((3 * (v (a0 + 19) a1)) + a2) ∧ zCL (a0 + 16) = 20 ∧ (0 ≤ ((3 * (v (a0 + 19) a1)) + a2) ∧ ((3 * (v (a0 + 19) a1)) + a2) < zLN (a0 + 16)) ∧ Q (v (a0 + 16) ((3 * (v (a0 + 19) a1)) + a2)) v) : zx l G 1 (d + 1) h_M_ofStone k_M_ofStone 115 Q QX K 300 (k_M_ofStone.drop 0) [(2, a0), (0, a1), (0, a2)] [] v 115 := h
set_option maxRecDepth 100000 in
theorem sg_M_sunOn_0 {l : Launch} {G : zG} {d : Nat} {Q : Int → zH → Prop} {QX : Nat → zH → Prop} {K : Nat → List zV → List zV → zH → Nat → Prop} {a0 a1 a2 : Int} {v : zH} (h : zCL a0 = 11 ∧ ((¬ (v a0 38) = ((-1)) →
  zCL a0 = 11 ∧ zCL (a0 + 9) = 20 ∧ (0 ≤ (0 : Int) ∧ 0 < zLN (a0 + 9)) ∧ zCL a0 = 11 ∧ zCL (a0 + 9) = 20 ∧ (0 ≤ (1 : Int) ∧ 1 < zLN (a0 + 9)) ∧ zCL a0 = 11 ∧ zCL (a0 + 9) = 20 ∧ (0 ≤ (2 : Int) ∧ 2 < zLN (a0 + 9)) ∧ zCL a0 = 11 ∧ zCL (a0 + 9) = 20 ∧ (0 ≤ (3 : Int) ∧ 3 < zLN (a0 + 9)) ∧ zCL a0 = 11 ∧ zCL a0 = 11 ∧ zCL (a0 + 19) = 20 ∧ (0 ≤ a1 ∧ a1 < zLN (a0 + 19)) ∧ zCL (a0 + 9) = 20 ∧ (0 ≤ (4 : Int) ∧ 4 < zLN (a0 + 9)) ∧ zCL a0 = 11 ∧ zCL a0 = 11 ∧ zC l G 1 d h_M_worthOf [(2, a0), (0, (zupd (zupd (zupd (zupd (zupd v (a0 + 9) 0 (a2.tmod 24)) (a0 + 9) 1 (a1.tdiv 10)) (a0 + 9) 2 (a1.tmod 10)) (a0 + 9) 3 (a2.tdiv 24)) (a0 + 9) 4 ((zupd (zupd (zupd (zupd v (a0 + 9) 0 (a2.tmod 24)) (a0 + 9) 1 (a1.tdiv 10)) (a0 + 9) 2 (a1.tmod 10)) (a0 + 9) 3 (a2.tdiv 24)) (a0 + 19) a1)) a0 38)] (zupd (zupd (zupd (zupd (zupd v (a0 + 9) 0 (a2.tmod 24)) (a0 + 9) 1 (a1.tdiv 10)) (a0 + 9) 2 (a1.tmod 10)) (a0 + 9) 3 (a2.tdiv 24)) (a0 + 9) 4 ((zupd (zupd (zupd (zupd v (a0 + 9) 0 (a2.tmod 24)) (a0 + 9) 1 (a1.tdiv 10)) (a0 + 9) 2 (a1.tmod 10)) (a0 + 9) 3 (a2.tdiv 24)) (a0 + 19) a1)) 115 (fun r1 v1 =>
    Q (max 0 (min 9 r1)) v1)) ∧
  ((v a0 38) = ((-1)) →
  zC l G 1 d h_M_in [(0, a2.tmod 24), (0, 8), (0, 15)] v 115 (fun r2 v2 =>
    ((r2 = 0 →
    Q 0 v2) ∧
    (¬ r2 = 0 →
    Q 5 v2)))))) : zx l G 1 (d + 1) h_M_sunOn k_M_sunOn 115 Q QX K 300 (k_M_sunOn.drop 0) [(2, a0), (0, a1), (0, a2), (3, 0)] [] v 115 := h
set_option maxRecDepth 100000 in
theorem sg_M_doesBurn_0 {l : Launch} {G : zG} {d : Nat} {Q : Int → zH → Prop} {QX : Nat → zH → Prop} {K : Nat → List zV → List zV → zH → Nat → Prop} {a0 a1 a2 : Int} {v : zH} (h : zCL a0 = 11 ∧ zI (5 * a1) ∧ zI ((5 * a1) + 2) ∧ zCL (a0 + 17) = 20 ∧ (0 ≤ ((5 * a1) + 2) ∧ ((5 * a1) + 2) < zLN (a0 + 17)) ∧ zCL a0 = 11 ∧ zI (5 * a1) ∧ zI ((5 * a1) + 3) ∧ zCL (a0 + 17) = 20 ∧ (0 ≤ ((5 * a1) + 3) ∧ ((5 * a1) + 3) < zLN (a0 + 17)) ∧ zCL a0 = 11 ∧ ((a1 = (v a0 39) →
  ((0 : Int) = 0 ∨ (0 : Int) = 1) ∧ Q 0 v) ∧
  (¬ a1 = (v a0 39) →
  (((v (a0 + 17) ((5 * a1) + 3)) ≤ (v (a0 + 17) ((5 * a1) + 2)) →
    (((v (a0 + 17) ((5 * a1) + 2)) ≤ (v (a0 + 17) ((5 * a1) + 3)) →
      ((0 : Int) = 0 ∨ (0 : Int) = 1) ∧ Q 0 v) ∧
      ((v (a0 + 17) ((5 * a1) + 3)) < (v (a0 + 17) ((5 * a1) + 2)) →
      (((v (a0 + 17) ((5 * a1) + 2)) ≤ (a2.tmod 24) →
        ((1 : Int) = 0 ∨ (1 : Int) = 1) ∧ Q 1 v) ∧
        ((a2.tmod 24) < (v (a0 + 17) ((5 * a1) + 2)) →
        (((v (a0 + 17) ((5 * a1) + 3)) ≤ (a2.tmod 24) →
          ((0 : Int) = 0 ∨ (0 : Int) = 1) ∧ Q 0 v) ∧
          ((a2.tmod 24) < (v (a0 + 17) ((5 * a1) + 3)) →
          ((1 : Int) = 0 ∨ (1 : Int) = 1) ∧ Q 1 v))))))) ∧
    ((v (a0 + 17) ((5 * a1) + 2)) < (v (a0 + 17) ((5 * a1) + 3)) →
    (((a2.tmod 24) < (v (a0 + 17) ((5 * a1) + 2)) →
      ((0 : Int) = 0 ∨ (0 : Int) = 1) ∧ Q 0 v) ∧
      ((v (a0 + 17) ((5 * a1) + 2)) ≤ (a2.tmod 24) →
      (((v (a0 + 17) ((5 * a1) + 3)) ≤ (a2.tmod 24) →
        ((0 : Int) = 0 ∨ (0 : Int) = 1) ∧ Q 0 v) ∧
        ((a2.tmod 24) < (v (a0 + 17) ((5 * a1) + 3)) →
        ((1 : Int) = 0 ∨ (1 : Int) = 1) ∧ Q 1 v))))))))) : zx l G 1 (d + 1) h_M_doesBurn k_M_doesBurn 115 Q QX K 300 (k_M_doesBurn.drop 0) [(2, a0), (0, a1), (0, a2), (3, 0), (3, 0), (3, 0)] [] v 115 := h
set_option maxRecDepth 100000 in
theorem sg_M_ovenCell_0 {l : Launch} {G : zG} {d : Nat} {Q : Int → zH → Prop} {QX : Nat → zH → Prop} {K : Nat → List zV → List zV → zH → Nat → Prop} {a0 a1 : Int} {v : zH} (h : zCL a0 = 11 ∧ zI (5 * a1) ∧ zCL (a0 + 17) = 20 ∧ (0 ≤ (5 * a1) ∧ (5 * a1) < zLN (a0 + 17)) ∧ zI (10 * (v (a0 + 17) (5 * a1))) ∧ zCL a0 = 11 ∧ zI (5 * a1) ∧ zI ((5 * a1) + 1) ∧ zCL (a0 + 17) = 20 ∧ (0 ≤ ((5 * a1) + 1) ∧ ((5 * a1) + 1) < zLN (a0 + 17)) ∧ zI ((10 * (v (a0 + 17) (5 * a1))) + (v (a0 + 17) ((5 * a1) + 1))) ∧ Q ((10 * (v (a0 + 17) (5 * a1))) + (v (a0 + 17) ((5 * a1) + 1))) v) : zx l G 1 (d + 1) h_M_ovenCell k_M_ovenCell 115 Q QX K 300 (k_M_ovenCell.drop 0) [(2, a0), (0, a1)] [] v 115 := h
set_option maxRecDepth 100000 in
theorem sg_M_areBeside_0 {l : Launch} {G : zG} {d : Nat} {Q : Int → zH → Prop} {QX : Nat → zH → Prop} {K : Nat → List zV → List zV → zH → Nat → Prop} {a0 a1 : Int} {v : zH} (h : zI ((a0.tdiv 10) - (a1.tdiv 10)) ∧ zI (-((a0.tdiv 10) - (a1.tdiv 10))) ∧ zI ((a0.tmod 10) - (a1.tmod 10)) ∧ zI (-((a0.tmod 10) - (a1.tmod 10))) ∧ zI (((((a0.tdiv 10) - (a1.tdiv 10)).natAbs : Int)) + ((((a0.tmod 10) - (a1.tmod 10)).natAbs : Int))) ∧ ((¬ (((((a0.tdiv 10) - (a1.tdiv 10)).natAbs : Int)) + ((((a0.tmod 10) - (a1.tmod 10)).natAbs : Int))) = 1 →
  ((0 : Int) = 0 ∨ (0 : Int) = 1) ∧ Q 0 v) ∧
  ((((((a0.tdiv 10) - (a1.tdiv 10)).natAbs : Int)) + ((((a0.tmod 10) - (a1.tmod 10)).natAbs : Int))) = 1 →
  ((1 : Int) = 0 ∨ (1 : Int) = 1) ∧ Q 1 v))) : zx l G 1 (d + 1) h_M_areBeside k_M_areBeside 115 Q QX K 300 (k_M_areBeside.drop 0) [(0, a0), (0, a1)] [] v 115 := h
set_option maxRecDepth 100000 in
theorem sg_M_beside_0 {l : Launch} {G : zG} {d : Nat} {Q : Int → zH → Prop} {QX : Nat → zH → Prop} {K : Nat → List zV → List zV → zH → Nat → Prop} {a0 a1 : Int} {v : zH} (h : K 4 [(2, a0), (0, a1), (0, 0), (0, 0)] [] v 115) : zx l G 1 (d + 1) h_M_beside k_M_beside 115 Q QX K 300 (k_M_beside.drop 0) [(2, a0), (0, a1), (3, 0), (3, 0)] [] v 115 := h
set_option maxRecDepth 100000 in
theorem sg_M_beside_4 {l : Launch} {G : zG} {d : Nat} {Q : Int → zH → Prop} {QX : Nat → zH → Prop} {K : Nat → List zV → List zV → zH → Nat → Prop} {a0 a1 a2 a3 : Int} {v : zH} (h : ((36 ≤ a3 →
  Q a2 v) ∧
  (a3 < 36 →
  zCL a0 = 11 ∧ zC l G 1 d h_M_isCell [(2, a0), (0, a3)] v 115 (fun r1 v1 =>
    ((r1 = 0 →
    zI (a2 + 0) ∧ zI (a3 + 1) ∧ K 4 [(2, a0), (0, a1), (0, a2 + 0), (0, a3 + 1)] [] v1 115) ∧
    (¬ r1 = 0 →
    zC l G 1 d h_M_areBeside [(0, a1), (0, a3)] v1 115 (fun r2 v2 =>
      ((r2 = 0 →
      zI (a2 + 0) ∧ zI (a3 + 1) ∧ K 4 [(2, a0), (0, a1), (0, a2 + 0), (0, a3 + 1)] [] v2 115) ∧
      (¬ r2 = 0 →
      zI (a2 + 1) ∧ zI (a3 + 1) ∧ K 4 [(2, a0), (0, a1), (0, a2 + 1), (0, a3 + 1)] [] v2 115))))))))) : zx l G 1 (d + 1) h_M_beside k_M_beside 115 Q QX K 300 (k_M_beside.drop 4) [(2, a0), (0, a1), (0, a2), (0, a3)] [] v 115 := h
set_option maxRecDepth 100000 in
theorem sg_M_pass_0 {l : Launch} {G : zG} {d : Nat} {Q : Int → zH → Prop} {QX : Nat → zH → Prop} {K : Nat → List zV → List zV → zH → Nat → Prop} {a0 : Int} {v : zH} (h : zCL a0 = 11 ∧ zCL a0 = 11 ∧ zC l G 1 d h_M_has [(0, v a0 37), (0, (v a0 36).tmod 24)] v 115 (fun r1 v1 =>
  K 10 [(2, a0), (0, r1), (0, 0), (3, 0), (3, 0)] [] v1 115)) : zx l G 1 (d + 1) h_M_pass k_M_pass 115 Q QX K 300 (k_M_pass.drop 0) [(2, a0), (3, 0), (3, 0), (3, 0), (3, 0)] [] v 115 := h
set_option maxRecDepth 100000 in
theorem sg_M_pass_10 {l : Launch} {G : zG} {d : Nat} {Q : Int → zH → Prop} {QX : Nat → zH → Prop} {K : Nat → List zV → List zV → zH → Nat → Prop} {a0 a1 a2 : Int} {v : zH} (h : ((36 ≤ a2 →
  K 79 [(2, a0), (0, a1), (0, 0), (3, 0), (3, 0)] [] v 115) ∧
  (a2 < 36 →
  zCL a0 = 11 ∧ zC l G 1 d h_M_isCell [(2, a0), (0, a2)] v 115 (fun r1 v1 =>
    ((r1 = 0 →
    zI (a2 + 1) ∧ K 10 [(2, a0), (0, a1), (0, a2 + 1), (3, 0), (3, 0)] [] v1 115) ∧
    (¬ r1 = 0 →
    zCL a0 = 11 ∧ zCL (a0 + 20) = 20 ∧ (0 ≤ a2 ∧ a2 < zLN (a0 + 20)) ∧ zCL a0 = 11 ∧ zC l G 1 d h_M_ofStone [(2, a0), (0, a2), (0, 2)] v1 115 (fun r2 v2 =>
      zI ((v1 (a0 + 20) a2) * r2) ∧ zCL a0 = 11 ∧ zCL (a0 + 21) = 20 ∧ (0 ≤ a2 ∧ a2 < zLN (a0 + 21)) ∧ zCL a0 = 11 ∧ zCL a0 = 11 ∧ zCL (a0 + 21) = 20 ∧ (0 ≤ a2 ∧ a2 < zLN (a0 + 21)) ∧ zCL a0 = 11 ∧ zC l G 1 d h_M_beside [(2, a0), (0, a2)] (zupd v2 (a0 + 21) a2 ((((v1 (a0 + 20) a2) * r2).tdiv 10).tdiv 4)) 115 (fun r3 v3 =>
      zI (((zupd v2 (a0 + 21) a2 ((((v1 (a0 + 20) a2) * r2).tdiv 10).tdiv 4)) (a0 + 21) a2) * r3) ∧ zI ((((v1 (a0 + 20) a2) * r2).tdiv 10) - (((zupd v2 (a0 + 21) a2 ((((v1 (a0 + 20) a2) * r2).tdiv 10).tdiv 4)) (a0 + 21) a2) * r3)) ∧ zCL (a0 + 23) = 20 ∧ (0 ≤ a2 ∧ a2 < zLN (a0 + 23)) ∧ zCL a0 = 11 ∧ zCL a0 = 11 ∧ zCL (a0 + 20) = 20 ∧ (0 ≤ a2 ∧ a2 < zLN (a0 + 20)) ∧ zI (((zupd v3 (a0 + 23) a2 ((((v1 (a0 + 20) a2) * r2).tdiv 10) - (((zupd v2 (a0 + 21) a2 ((((v1 (a0 + 20) a2) * r2).tdiv 10).tdiv 4)) (a0 + 21) a2) * r3))) (a0 + 20) a2) - (((v1 (a0 + 20) a2) * r2).tdiv 10)) ∧ ((a1 = 0 →
      zCL a0 = 11 ∧ zCL a0 = 11 ∧ zC l G 1 d h_M_sunOn [(2, a0), (0, a2), (0, (zupd v3 (a0 + 23) a2 ((((v1 (a0 + 20) a2) * r2).tdiv 10) - (((zupd v2 (a0 + 21) a2 ((((v1 (a0 + 20) a2) * r2).tdiv 10).tdiv 4)) (a0 + 21) a2) * r3))) a0 36)] (zupd v3 (a0 + 23) a2 ((((v1 (a0 + 20) a2) * r2).tdiv 10) - (((zupd v2 (a0 + 21) a2 ((((v1 (a0 + 20) a2) * r2).tdiv 10).tdiv 4)) (a0 + 21) a2) * r3))) 115 (fun r4 v4 =>
        zCL a0 = 11 ∧ zC l G 1 d h_M_ofStone [(2, a0), (0, a2), (0, 0)] v4 115 (fun r5 v5 =>
        zI (r4 * r5) ∧ zI ((((zupd v3 (a0 + 23) a2 ((((v1 (a0 + 20) a2) * r2).tdiv 10) - (((zupd v2 (a0 + 21) a2 ((((v1 (a0 + 20) a2) * r2).tdiv 10).tdiv 4)) (a0 + 21) a2) * r3))) (a0 + 20) a2) - (((v1 (a0 + 20) a2) * r2).tdiv 10)) + (r4 * r5)) ∧ zCL (a0 + 22) = 20 ∧ (0 ≤ a2 ∧ a2 < zLN (a0 + 22)) ∧ zI (a2 + 1) ∧ K 10 [(2, a0), (0, a1), (0, a2 + 1), (3, 0), (3, 0)] [] (zupd v5 (a0 + 22) a2 ((((zupd v3 (a0 + 23) a2 ((((v1 (a0 + 20) a2) * r2).tdiv 10) - (((zupd v2 (a0 + 21) a2 ((((v1 (a0 + 20) a2) * r2).tdiv 10).tdiv 4)) (a0 + 21) a2) * r3))) (a0 + 20) a2) - (((v1 (a0 + 20) a2) * r2).tdiv 10)) + (r4 * r5))) 115))) ∧
      (¬ a1 = 0 →
      zI ((((zupd v3 (a0 + 23) a2 ((((v1 (a0 + 20) a2) * r2).tdiv 10) - (((zupd v2 (a0 + 21) a2 ((((v1 (a0 + 20) a2) * r2).tdiv 10).tdiv 4)) (a0 + 21) a2) * r3))) (a0 + 20) a2) - (((v1 (a0 + 20) a2) * r2).tdiv 10)) + 0) ∧ zCL (a0 + 22) = 20 ∧ (0 ≤ a2 ∧ a2 < zLN (a0 + 22)) ∧ zI (a2 + 1) ∧ K 10 [(2, a0), (0, a1), (0, a2 + 1), (3, 0), (3, 0)] [] (zupd (zupd v3 (a0 + 23) a2 ((((v1 (a0 + 20) a2) * r2).tdiv 10) - (((zupd v2 (a0 + 21) a2 ((((v1 (a0 + 20) a2) * r2).tdiv 10).tdiv 4)) (a0 + 21) a2) * r3))) (a0 + 22) a2 ((((zupd v3 (a0 + 23) a2 ((((v1 (a0 + 20) a2) * r2).tdiv 10) - (((zupd v2 (a0 + 21) a2 ((((v1 (a0 + 20) a2) * r2).tdiv 10).tdiv 4)) (a0 + 21) a2) * r3))) (a0 + 20) a2) - (((v1 (a0 + 20) a2) * r2).tdiv 10)) + 0)) 115)))))))))) : zx l G 1 (d + 1) h_M_pass k_M_pass 115 Q QX K 300 (k_M_pass.drop 10) [(2, a0), (0, a1), (0, a2), (3, 0), (3, 0)] [] v 115 := h
set_option maxRecDepth 100000 in
theorem sg_M_pass_79 {l : Launch} {G : zG} {d : Nat} {Q : Int → zH → Prop} {QX : Nat → zH → Prop} {K : Nat → List zV → List zV → zH → Nat → Prop} {a0 a1 a2 : Int} {v : zH} (h : ((36 ≤ a2 →
  zCL a0 = 11 ∧ zI ((v a0 36) + 1) ∧ zCL a0 = 11 ∧ Q 0 (zupd v a0 36 ((v a0 36) + 1))) ∧
  (a2 < 36 →
  zCL a0 = 11 ∧ zC l G 1 d h_M_isCell [(2, a0), (0, a2)] v 115 (fun r1 v1 =>
    ((r1 = 0 →
    zI (a2 + 1) ∧ K 79 [(2, a0), (0, a1), (0, a2 + 1), (3, 0), (3, 0)] [] v1 115) ∧
    (¬ r1 = 0 →
    K 88 [(2, a0), (0, a1), (0, a2), (0, 0), (3, 0)] [] v1 115)))))) : zx l G 1 (d + 1) h_M_pass k_M_pass 115 Q QX K 300 (k_M_pass.drop 79) [(2, a0), (0, a1), (0, a2), (3, 0), (3, 0)] [] v 115 := h
set_option maxRecDepth 100000 in
theorem sg_M_pass_88 {l : Launch} {G : zG} {d : Nat} {Q : Int → zH → Prop} {QX : Nat → zH → Prop} {K : Nat → List zV → List zV → zH → Nat → Prop} {a0 a1 a2 a3 : Int} {v : zH} (h : ((36 ≤ a3 →
  K 116 [(2, a0), (0, a1), (0, a2), (0, 0), (3, 0)] [] v 115) ∧
  (a3 < 36 →
  zCL a0 = 11 ∧ zCL (a0 + 22) = 20 ∧ (0 ≤ a2 ∧ a2 < zLN (a0 + 22)) ∧ zCL a0 = 11 ∧ zC l G 1 d h_M_isCell [(2, a0), (0, a3)] v 115 (fun r1 v1 =>
    ((r1 = 0 →
    zI ((v (a0 + 22) a2) + 0) ∧ zCL (a0 + 22) = 20 ∧ (0 ≤ a2 ∧ a2 < zLN (a0 + 22)) ∧ zI (a3 + 1) ∧ K 88 [(2, a0), (0, a1), (0, a2), (0, a3 + 1), (3, 0)] [] (zupd v1 (a0 + 22) a2 ((v (a0 + 22) a2) + 0)) 115) ∧
    (¬ r1 = 0 →
    zC l G 1 d h_M_areBeside [(0, a2), (0, a3)] v1 115 (fun r2 v2 =>
      ((r2 = 0 →
      zI ((v (a0 + 22) a2) + 0) ∧ zCL (a0 + 22) = 20 ∧ (0 ≤ a2 ∧ a2 < zLN (a0 + 22)) ∧ zI (a3 + 1) ∧ K 88 [(2, a0), (0, a1), (0, a2), (0, a3 + 1), (3, 0)] [] (zupd v2 (a0 + 22) a2 ((v (a0 + 22) a2) + 0)) 115) ∧
      (¬ r2 = 0 →
      zCL a0 = 11 ∧ zCL (a0 + 21) = 20 ∧ (0 ≤ a3 ∧ a3 < zLN (a0 + 21)) ∧ zI ((v (a0 + 22) a2) + (v2 (a0 + 21) a3)) ∧ zCL (a0 + 22) = 20 ∧ (0 ≤ a2 ∧ a2 < zLN (a0 + 22)) ∧ zI (a3 + 1) ∧ K 88 [(2, a0), (0, a1), (0, a2), (0, a3 + 1), (3, 0)] [] (zupd v2 (a0 + 22) a2 ((v (a0 + 22) a2) + (v2 (a0 + 21) a3))) 115))))))))) : zx l G 1 (d + 1) h_M_pass k_M_pass 115 Q QX K 300 (k_M_pass.drop 88) [(2, a0), (0, a1), (0, a2), (0, a3), (3, 0)] [] v 115 := h
set_option maxRecDepth 100000 in
theorem sg_M_pass_116 {l : Launch} {G : zG} {d : Nat} {Q : Int → zH → Prop} {QX : Nat → zH → Prop} {K : Nat → List zV → List zV → zH → Nat → Prop} {a0 a1 a2 a3 : Int} {v : zH} (h : zCL a0 = 11 ∧ (((v a0 33) ≤ a3 →
  ((a1 = 0 →
    zCL a0 = 11 ∧ zCL (a0 + 22) = 20 ∧ (0 ≤ a2 ∧ a2 < zLN (a0 + 22)) ∧ zCL a0 = 11 ∧ zC l G 1 d h_M_ofStone [(2, a0), (0, a2), (0, 1)] v 115 (fun r1 v1 =>
      zI ((v (a0 + 22) a2) - r1) ∧ zCL a0 = 11 ∧ zI ((v (a0 + 22) a2) - (max 0 ((v (a0 + 22) a2) - r1))) ∧ zCL (a0 + 20) = 20 ∧ (0 ≤ a2 ∧ a2 < zLN (a0 + 20)) ∧ zCL a0 = 11 ∧ zCL (a0 + 23) = 20 ∧ (0 ≤ a2 ∧ a2 < zLN (a0 + 23)) ∧ zI (((zupd v1 (a0 + 20) a2 ((v (a0 + 22) a2) - (max 0 ((v (a0 + 22) a2) - r1)))) (a0 + 23) a2) + (max 0 ((v (a0 + 22) a2) - r1))) ∧ zCL (a0 + 23) = 20 ∧ (0 ≤ a2 ∧ a2 < zLN (a0 + 23)) ∧ zI (a2 + 1) ∧ K 79 [(2, a0), (0, a1), (0, a2 + 1), (3, 0), (3, 0)] [] (zupd (zupd v1 (a0 + 20) a2 ((v (a0 + 22) a2) - (max 0 ((v (a0 + 22) a2) - r1)))) (a0 + 23) a2 (((zupd v1 (a0 + 20) a2 ((v (a0 + 22) a2) - (max 0 ((v (a0 + 22) a2) - r1)))) (a0 + 23) a2) + (max 0 ((v (a0 + 22) a2) - r1)))) 115)) ∧
    (¬ a1 = 0 →
    zCL a0 = 11 ∧ zCL (a0 + 22) = 20 ∧ (0 ≤ a2 ∧ a2 < zLN (a0 + 22)) ∧ zI ((v (a0 + 22) a2) - 2) ∧ zCL a0 = 11 ∧ zC l G 1 d h_M_ofStone [(2, a0), (0, a2), (0, 1)] v 115 (fun r2 v2 =>
      zI ((max 0 ((v (a0 + 22) a2) - 2)) - r2) ∧ zCL a0 = 11 ∧ zI ((max 0 ((v (a0 + 22) a2) - 2)) - (max 0 ((max 0 ((v (a0 + 22) a2) - 2)) - r2))) ∧ zCL (a0 + 20) = 20 ∧ (0 ≤ a2 ∧ a2 < zLN (a0 + 20)) ∧ zCL a0 = 11 ∧ zCL (a0 + 23) = 20 ∧ (0 ≤ a2 ∧ a2 < zLN (a0 + 23)) ∧ zI (((zupd v2 (a0 + 20) a2 ((max 0 ((v (a0 + 22) a2) - 2)) - (max 0 ((max 0 ((v (a0 + 22) a2) - 2)) - r2)))) (a0 + 23) a2) + (max 0 ((max 0 ((v (a0 + 22) a2) - 2)) - r2))) ∧ zCL (a0 + 23) = 20 ∧ (0 ≤ a2 ∧ a2 < zLN (a0 + 23)) ∧ zI (a2 + 1) ∧ K 79 [(2, a0), (0, a1), (0, a2 + 1), (3, 0), (3, 0)] [] (zupd (zupd v2 (a0 + 20) a2 ((max 0 ((v (a0 + 22) a2) - 2)) - (max 0 ((max 0 ((v (a0 + 22) a2) - 2)) - r2)))) (a0 + 23) a2 (((zupd v2 (a0 + 20) a2 ((max 0 ((v (a0 + 22) a2) - 2)) - (max 0 ((max 0 ((v (a0 + 22) a2) - 2)) - r2)))) (a0 + 23) a2) + (max 0 ((max 0 ((v (a0 + 22) a2) - 2)) - r2)))) 115)))) ∧
  (a3 < (v a0 33) →
  zCL a0 = 11 ∧ zCL a0 = 11 ∧ zC l G 1 d h_M_doesBurn [(2, a0), (0, a3), (0, v a0 36)] v 115 (fun r3 v3 =>
    ((r3 = 0 →
    zCL a0 = 11 ∧ zCL (a0 + 22) = 20 ∧ (0 ≤ a2 ∧ a2 < zLN (a0 + 22)) ∧ zCL a0 = 11 ∧ zC l G 1 d h_M_ovenCell [(2, a0), (0, a3)] v3 115 (fun r4 v4 =>
      ((¬ r4 = a2 →
      zCL a0 = 11 ∧ zC l G 1 d h_M_ovenCell [(2, a0), (0, a3)] v4 115 (fun r5 v5 =>
        zC l G 1 d h_M_areBeside [(0, r5), (0, a2)] v5 115 (fun r6 v6 =>
        ((r6 = 0 →
        zI ((v3 (a0 + 22) a2) + 0) ∧ zCL (a0 + 22) = 20 ∧ (0 ≤ a2 ∧ a2 < zLN (a0 + 22)) ∧ zI (a3 + 1) ∧ K 116 [(2, a0), (0, a1), (0, a2), (0, a3 + 1), (3, 0)] [] (zupd v6 (a0 + 22) a2 ((v3 (a0 + 22) a2) + 0)) 115) ∧
        (¬ r6 = 0 →
        zI ((v3 (a0 + 22) a2) + ((0 : Int).tdiv 2)) ∧ zCL (a0 + 22) = 20 ∧ (0 ≤ a2 ∧ a2 < zLN (a0 + 22)) ∧ zI (a3 + 1) ∧ K 116 [(2, a0), (0, a1), (0, a2), (0, a3 + 1), (3, 0)] [] (zupd v6 (a0 + 22) a2 ((v3 (a0 + 22) a2) + ((0 : Int).tdiv 2))) 115))))) ∧
      (r4 = a2 →
      zI ((v3 (a0 + 22) a2) + 0) ∧ zCL (a0 + 22) = 20 ∧ (0 ≤ a2 ∧ a2 < zLN (a0 + 22)) ∧ zI (a3 + 1) ∧ K 116 [(2, a0), (0, a1), (0, a2), (0, a3 + 1), (3, 0)] [] (zupd v4 (a0 + 22) a2 ((v3 (a0 + 22) a2) + 0)) 115)))) ∧
    (¬ r3 = 0 →
    zCL a0 = 11 ∧ zI (5 * a3) ∧ zI ((5 * a3) + 4) ∧ zCL (a0 + 17) = 20 ∧ (0 ≤ ((5 * a3) + 4) ∧ ((5 * a3) + 4) < zLN (a0 + 17)) ∧ zCL a0 = 11 ∧ zCL (a0 + 22) = 20 ∧ (0 ≤ a2 ∧ a2 < zLN (a0 + 22)) ∧ zCL a0 = 11 ∧ zC l G 1 d h_M_ovenCell [(2, a0), (0, a3)] v3 115 (fun r7 v7 =>
      ((¬ r7 = a2 →
      zCL a0 = 11 ∧ zC l G 1 d h_M_ovenCell [(2, a0), (0, a3)] v7 115 (fun r8 v8 =>
        zC l G 1 d h_M_areBeside [(0, r8), (0, a2)] v8 115 (fun r9 v9 =>
        ((r9 = 0 →
        zI ((v3 (a0 + 22) a2) + 0) ∧ zCL (a0 + 22) = 20 ∧ (0 ≤ a2 ∧ a2 < zLN (a0 + 22)) ∧ zI (a3 + 1) ∧ K 116 [(2, a0), (0, a1), (0, a2), (0, a3 + 1), (3, 0)] [] (zupd v9 (a0 + 22) a2 ((v3 (a0 + 22) a2) + 0)) 115) ∧
        (¬ r9 = 0 →
        zI ((v3 (a0 + 22) a2) + ((v3 (a0 + 17) ((5 * a3) + 4)).tdiv 2)) ∧ zCL (a0 + 22) = 20 ∧ (0 ≤ a2 ∧ a2 < zLN (a0 + 22)) ∧ zI (a3 + 1) ∧ K 116 [(2, a0), (0, a1), (0, a2), (0, a3 + 1), (3, 0)] [] (zupd v9 (a0 + 22) a2 ((v3 (a0 + 22) a2) + ((v3 (a0 + 17) ((5 * a3) + 4)).tdiv 2))) 115))))) ∧
      (r7 = a2 →
      zI ((v3 (a0 + 22) a2) + (v3 (a0 + 17) ((5 * a3) + 4))) ∧ zCL (a0 + 22) = 20 ∧ (0 ≤ a2 ∧ a2 < zLN (a0 + 22)) ∧ zI (a3 + 1) ∧ K 116 [(2, a0), (0, a1), (0, a2), (0, a3 + 1), (3, 0)] [] (zupd v7 (a0 + 22) a2 ((v3 (a0 + 22) a2) + (v3 (a0 + 17) ((5 * a3) + 4)))) 115))))))))) : zx l G 1 (d + 1) h_M_pass k_M_pass 115 Q QX K 300 (k_M_pass.drop 116) [(2, a0), (0, a1), (0, a2), (0, a3), (3, 0)] [] v 115 := h
set_option maxRecDepth 100000 in
theorem sg_M_passAll_0 {l : Launch} {G : zG} {d : Nat} {Q : Int → zH → Prop} {QX : Nat → zH → Prop} {K : Nat → List zV → List zV → zH → Nat → Prop} {a0 a1 : Int} {v : zH} (h : K 2 [(2, a0), (0, a1), (0, 0)] [] v 115) : zx l G 1 (d + 1) h_M_passAll k_M_passAll 115 Q QX K 300 (k_M_passAll.drop 0) [(2, a0), (0, a1), (3, 0)] [] v 115 := h
set_option maxRecDepth 100000 in
theorem sg_M_passAll_2 {l : Launch} {G : zG} {d : Nat} {Q : Int → zH → Prop} {QX : Nat → zH → Prop} {K : Nat → List zV → List zV → zH → Nat → Prop} {a0 a1 a2 : Int} {v : zH} (h : ((a1 ≤ a2 →
  Q 0 v) ∧
  (a2 < a1 →
  zCL a0 = 11 ∧ zC l G 1 d h_M_pass [(2, a0)] v 115 (fun _ v1 =>
    zI (a2 + 1) ∧ K 2 [(2, a0), (0, a1), (0, a2 + 1)] [] v1 115)))) : zx l G 1 (d + 1) h_M_passAll k_M_passAll 115 Q QX K 300 (k_M_passAll.drop 2) [(2, a0), (0, a1), (0, a2)] [] v 115 := h
set_option maxRecDepth 100000 in
theorem sg_M_putAside_0 {l : Launch} {G : zG} {d : Nat} {Q : Int → zH → Prop} {QX : Nat → zH → Prop} {K : Nat → List zV → List zV → zH → Nat → Prop} {a0 : Int} {v : zH} (h : zCL a0 = 11 ∧ zCL a0 = 11 ∧ zC l G 1 d h_M_copy [(2, a0 + 20), (2, a0 + 24)] v 115 (fun _ v1 =>
  zCL a0 = 11 ∧ zCL a0 = 11 ∧ Q 0 (zupd v1 a0 44 (v1 a0 36)))) : zx l G 1 (d + 1) h_M_putAside k_M_putAside 115 Q QX K 300 (k_M_putAside.drop 0) [(2, a0)] [] v 115 := h
set_option maxRecDepth 100000 in
theorem sg_M_takeBack_0 {l : Launch} {G : zG} {d : Nat} {Q : Int → zH → Prop} {QX : Nat → zH → Prop} {K : Nat → List zV → List zV → zH → Nat → Prop} {a0 : Int} {v : zH} (h : zCL a0 = 11 ∧ zCL a0 = 11 ∧ zC l G 1 d h_M_copy [(2, a0 + 24), (2, a0 + 20)] v 115 (fun _ v1 =>
  zCL a0 = 11 ∧ zCL a0 = 11 ∧ Q 0 (zupd v1 a0 36 (v1 a0 44)))) : zx l G 1 (d + 1) h_M_takeBack k_M_takeBack 115 Q QX K 300 (k_M_takeBack.drop 0) [(2, a0)] [] v 115 := h
set_option maxRecDepth 100000 in
theorem sg_M_cell_0 {l : Launch} {G : zG} {d : Nat} {Q : Int → zH → Prop} {QX : Nat → zH → Prop} {K : Nat → List zV → List zV → zH → Nat → Prop} {a0 a1 a2 : Int} {v : zH} (h : zCL a0 = 11 ∧ zC l G 1 d h_M_isCell [(2, a0), (0, a1)] v 115 (fun r1 v1 =>
  ((r1 = 0 →
  zCL a0 = 11 ∧ zCL a0 = 11 ∧ ((¬ ((zupd v1 a0 0 1) a0 0) = 1 →
    ((3 ≤ a2 →
      zCL a0 = 11 ∧ zC l G 1 d h_M_putAside [(2, a0)] (zupd v1 a0 0 1) 115 (fun _ v2 =>
        zCL a0 = 11 ∧ zC l G 1 d h_M_pass [(2, a0)] v2 115 (fun _ v3 =>
        zCL a0 = 11 ∧ zC l G 1 d h_M_takeBack [(2, a0)] v3 115 (fun _ v4 =>
        zCL a0 = 11 ∧ zCL (a0 + 23) = 20 ∧ (0 ≤ a1 ∧ a1 < zLN (a0 + 23)) ∧ Q (v4 (a0 + 23) a1) v4)))) ∧
      (a2 < 3 →
      ((¬ a2 = 0 →
        ((¬ a2 = 1 →
          zCL a0 = 11 ∧ zCL a0 = 11 ∧ zC l G 1 d h_M_sunOn [(2, a0), (0, a1), (0, (zupd v1 a0 0 1) a0 36)] (zupd v1 a0 0 1) 115 (fun r5 v5 =>
            Q r5 v5)) ∧
          (a2 = 1 →
          zCL a0 = 11 ∧ zCL (a0 + 20) = 20 ∧ (0 ≤ a1 ∧ a1 < zLN (a0 + 20)) ∧ Q ((zupd v1 a0 0 1) (a0 + 20) a1) (zupd v1 a0 0 1)))) ∧
        (a2 = 0 →
        zCL a0 = 11 ∧ zCL (a0 + 19) = 20 ∧ (0 ≤ a1 ∧ a1 < zLN (a0 + 19)) ∧ Q ((zupd v1 a0 0 1) (a0 + 19) a1) (zupd v1 a0 0 1)))))) ∧
    (((zupd v1 a0 0 1) a0 0) = 1 →
    Q 0 (zupd v1 a0 0 1)))) ∧
  (¬ r1 = 0 →
  zC l G 1 d h_M_in [(0, a2), (0, 0), (0, 3)] v1 115 (fun r6 v6 =>
    ((r6 = 0 →
    zCL a0 = 11 ∧ zCL a0 = 11 ∧ ((¬ ((zupd v6 a0 0 1) a0 0) = 1 →
      ((3 ≤ a2 →
        zCL a0 = 11 ∧ zC l G 1 d h_M_putAside [(2, a0)] (zupd v6 a0 0 1) 115 (fun _ v7 =>
          zCL a0 = 11 ∧ zC l G 1 d h_M_pass [(2, a0)] v7 115 (fun _ v8 =>
          zCL a0 = 11 ∧ zC l G 1 d h_M_takeBack [(2, a0)] v8 115 (fun _ v9 =>
          zCL a0 = 11 ∧ zCL (a0 + 23) = 20 ∧ (0 ≤ a1 ∧ a1 < zLN (a0 + 23)) ∧ Q (v9 (a0 + 23) a1) v9)))) ∧
        (a2 < 3 →
        ((¬ a2 = 0 →
          ((¬ a2 = 1 →
            zCL a0 = 11 ∧ zCL a0 = 11 ∧ zC l G 1 d h_M_sunOn [(2, a0), (0, a1), (0, (zupd v6 a0 0 1) a0 36)] (zupd v6 a0 0 1) 115 (fun r10 v10 =>
              Q r10 v10)) ∧
            (a2 = 1 →
            zCL a0 = 11 ∧ zCL (a0 + 20) = 20 ∧ (0 ≤ a1 ∧ a1 < zLN (a0 + 20)) ∧ Q ((zupd v6 a0 0 1) (a0 + 20) a1) (zupd v6 a0 0 1)))) ∧
          (a2 = 0 →
          zCL a0 = 11 ∧ zCL (a0 + 19) = 20 ∧ (0 ≤ a1 ∧ a1 < zLN (a0 + 19)) ∧ Q ((zupd v6 a0 0 1) (a0 + 19) a1) (zupd v6 a0 0 1)))))) ∧
      (((zupd v6 a0 0 1) a0 0) = 1 →
      Q 0 (zupd v6 a0 0 1)))) ∧
    (¬ r6 = 0 →
    zCL a0 = 11 ∧ zCL a0 = 11 ∧ ((¬ ((zupd v6 a0 0 0) a0 0) = 1 →
      ((3 ≤ a2 →
        zCL a0 = 11 ∧ zC l G 1 d h_M_putAside [(2, a0)] (zupd v6 a0 0 0) 115 (fun _ v11 =>
          zCL a0 = 11 ∧ zC l G 1 d h_M_pass [(2, a0)] v11 115 (fun _ v12 =>
          zCL a0 = 11 ∧ zC l G 1 d h_M_takeBack [(2, a0)] v12 115 (fun _ v13 =>
          zCL a0 = 11 ∧ zCL (a0 + 23) = 20 ∧ (0 ≤ a1 ∧ a1 < zLN (a0 + 23)) ∧ Q (v13 (a0 + 23) a1) v13)))) ∧
        (a2 < 3 →
        ((¬ a2 = 0 →
          ((¬ a2 = 1 →
            zCL a0 = 11 ∧ zCL a0 = 11 ∧ zC l G 1 d h_M_sunOn [(2, a0), (0, a1), (0, (zupd v6 a0 0 0) a0 36)] (zupd v6 a0 0 0) 115 (fun r14 v14 =>
              Q r14 v14)) ∧
            (a2 = 1 →
            zCL a0 = 11 ∧ zCL (a0 + 20) = 20 ∧ (0 ≤ a1 ∧ a1 < zLN (a0 + 20)) ∧ Q ((zupd v6 a0 0 0) (a0 + 20) a1) (zupd v6 a0 0 0)))) ∧
          (a2 = 0 →
          zCL a0 = 11 ∧ zCL (a0 + 19) = 20 ∧ (0 ≤ a1 ∧ a1 < zLN (a0 + 19)) ∧ Q ((zupd v6 a0 0 0) (a0 + 19) a1) (zupd v6 a0 0 0)))))) ∧
      (((zupd v6 a0 0 0) a0 0) = 1 →
      Q 0 (zupd v6 a0 0 0)))))))))) : zx l G 1 (d + 1) h_M_cell k_M_cell 115 Q QX K 300 (k_M_cell.drop 0) [(2, a0), (0, a1), (0, a2)] [] v 115 := h
set_option maxRecDepth 100000 in
theorem sg_M_stone_0 {l : Launch} {G : zG} {d : Nat} {Q : Int → zH → Prop} {QX : Nat → zH → Prop} {K : Nat → List zV → List zV → zH → Nat → Prop} {a0 a1 a2 : Int} {v : zH} (h : zCL a0 = 11 ∧ zI ((v a0 30) - 1) ∧ zC l G 1 d h_M_in [(0, a1), (0, 0), (0, (v a0 30) - 1)] v 115 (fun r1 v1 =>
  ((r1 = 0 →
  Q ((-1)) v1) ∧
  (¬ r1 = 0 →
  zC l G 1 d h_M_in [(0, a2), (0, 0), (0, 2)] v1 115 (fun r2 v2 =>
    ((r2 = 0 →
    Q ((-1)) v2) ∧
    (¬ r2 = 0 →
    zCL a0 = 11 ∧ zI (3 * a1) ∧ zI ((3 * a1) + a2) ∧ zCL (a0 + 16) = 20 ∧ (0 ≤ ((3 * a1) + a2) ∧ ((3 * a1) + a2) < zLN (a0 + 16)) ∧ Q (v2 (a0 + 16) ((3 * a1) + a2)) v2))))))) : zx l G 1 (d + 1) h_M_stone k_M_stone 115 Q QX K 300 (k_M_stone.drop 0) [(2, a0), (0, a1), (0, a2)] [] v 115 := h
set_option maxRecDepth 100000 in
theorem sg_M_oven_0 {l : Launch} {G : zG} {d : Nat} {Q : Int → zH → Prop} {QX : Nat → zH → Prop} {K : Nat → List zV → List zV → zH → Nat → Prop} {a0 a1 a2 : Int} {v : zH} (h : zCL a0 = 11 ∧ zI ((v a0 33) - 1) ∧ zC l G 1 d h_M_in [(0, a1), (0, 0), (0, (v a0 33) - 1)] v 115 (fun r1 v1 =>
  ((r1 = 0 →
  Q ((-1)) v1) ∧
  (¬ r1 = 0 →
  zC l G 1 d h_M_in [(0, a2), (0, 0), (0, 4)] v1 115 (fun r2 v2 =>
    ((¬ r2 = 0 →
    ((¬ a2 = 0 →
      ((4 ≤ a2 →
        zCL a0 = 11 ∧ zCL a0 = 11 ∧ zC l G 1 d h_M_doesBurn [(2, a0), (0, a1), (0, v2 a0 36)] v2 115 (fun r3 v3 =>
          ((r3 = 0 →
          Q 0 v3) ∧
          (¬ r3 = 0 →
          Q 1 v3)))) ∧
        (a2 < 4 →
        zCL a0 = 11 ∧ zI (5 * a1) ∧ zI ((5 * a1) + a2) ∧ zI (((5 * a1) + a2) + 1) ∧ zCL (a0 + 17) = 20 ∧ (0 ≤ (((5 * a1) + a2) + 1) ∧ (((5 * a1) + a2) + 1) < zLN (a0 + 17)) ∧ Q (v2 (a0 + 17) (((5 * a1) + a2) + 1)) v2))) ∧
      (a2 = 0 →
      zCL a0 = 11 ∧ zC l G 1 d h_M_ovenCell [(2, a0), (0, a1)] v2 115 (fun r4 v4 =>
        Q r4 v4)))) ∧
    (r2 = 0 →
    Q ((-1)) v2))))))) : zx l G 1 (d + 1) h_M_oven k_M_oven 115 Q QX K 300 (k_M_oven.drop 0) [(2, a0), (0, a1), (0, a2)] [] v 115 := h
set_option maxRecDepth 100000 in
theorem sg_M_isSleeper_0 {l : Launch} {G : zG} {d : Nat} {Q : Int → zH → Prop} {QX : Nat → zH → Prop} {K : Nat → List zV → List zV → zH → Nat → Prop} {a0 a1 : Int} {v : zH} (h : zCL a0 = 11 ∧ zI ((v a0 34) - 1) ∧ zC l G 1 d h_M_in [(0, a1), (0, 0), (0, (v a0 34) - 1)] v 115 (fun r1 v1 =>
  (r1 = 0 ∨ r1 = 1) ∧ Q r1 v1)) : zx l G 1 (d + 1) h_M_isSleeper k_M_isSleeper 115 Q QX K 300 (k_M_isSleeper.drop 0) [(2, a0), (0, a1)] [] v 115 := h
set_option maxRecDepth 100000 in
theorem sg_M_sleeper_0 {l : Launch} {G : zG} {d : Nat} {Q : Int → zH → Prop} {QX : Nat → zH → Prop} {K : Nat → List zV → List zV → zH → Nat → Prop} {a0 a1 a2 : Int} {v : zH} (h : zCL a0 = 11 ∧ zC l G 1 d h_M_isSleeper [(2, a0), (0, a1)] v 115 (fun r1 v1 =>
  ((r1 = 0 →
  Q ((-1)) v1) ∧
  (¬ r1 = 0 →
  zC l G 1 d h_M_in [(0, a2), (0, 0), (0, 1)] v1 115 (fun r2 v2 =>
    ((r2 = 0 →
    Q ((-1)) v2) ∧
    (¬ r2 = 0 →
    zCL a0 = 11 ∧ zI (2 * a1) ∧ zI ((2 * a1) + a2) ∧ zCL (a0 + 18) = 20 ∧ (0 ≤ ((2 * a1) + a2) ∧ ((2 * a1) + a2) < zLN (a0 + 18)) ∧ Q (v2 (a0 + 18) ((2 * a1) + a2)) v2))))))) : zx l G 1 (d + 1) h_M_sleeper k_M_sleeper 115 Q QX K 300 (k_M_sleeper.drop 0) [(2, a0), (0, a1), (0, a2)] [] v 115 := h
set_option maxRecDepth 100000 in
theorem sg_M_law_0 {l : Launch} {G : zG} {d : Nat} {Q : Int → zH → Prop} {QX : Nat → zH → Prop} {K : Nat → List zV → List zV → zH → Nat → Prop} {a0 a1 : Int} {v : zH} (h : zCL a0 = 11 ∧ zI ((v a0 13) - 1) ∧ zC l G 1 d h_M_in [(0, a1), (0, (-1)), (0, (v a0 13) - 1)] v 115 (fun r1 v1 =>
  ((¬ r1 = 0 →
  zCL a0 = 11 ∧ ((1 : Int) = 0 ∨ (1 : Int) = 1) ∧ Q 1 (zupd v1 a0 38 a1)) ∧
  (r1 = 0 →
  ((0 : Int) = 0 ∨ (0 : Int) = 1) ∧ Q 0 v1)))) : zx l G 1 (d + 1) h_M_law k_M_law 115 Q QX K 300 (k_M_law.drop 0) [(2, a0), (0, a1)] [] v 115 := h
set_option maxRecDepth 100000 in
theorem sg_M_rain_0 {l : Launch} {G : zG} {d : Nat} {Q : Int → zH → Prop} {QX : Nat → zH → Prop} {K : Nat → List zV → List zV → zH → Nat → Prop} {a0 a1 a2 : Int} {v : zH} (h : zCL a0 = 11 ∧ (((v a0 31) = 0 →
  ((0 : Int) = 0 ∨ (0 : Int) = 1) ∧ Q 0 v) ∧
  (¬ (v a0 31) = 0 →
  zC l G 1 d h_M_in [(0, a1), (0, 0), (0, 23)] v 115 (fun r1 v1 =>
    ((r1 = 0 →
    ((0 : Int) = 0 ∨ (0 : Int) = 1) ∧ Q 0 v1) ∧
    (¬ r1 = 0 →
    zCL a0 = 11 ∧ zC l G 1 d h_M_has [(0, v1 a0 37), (0, a1)] v1 115 (fun r2 v2 =>
      ((¬ r2 = a2 →
      zCL a0 = 11 ∧ zCL a0 = 11 ∧ ((1 : Int) = 0 ∨ (1 : Int) = 1) ∧ Q 1 (zupd v2 a0 37 (zxor (v2 a0 37) (zshl 1 a1)))) ∧
      (r2 = a2 →
      ((0 : Int) = 0 ∨ (0 : Int) = 1) ∧ Q 0 v2))))))))) : zx l G 1 (d + 1) h_M_rain k_M_rain 115 Q QX K 300 (k_M_rain.drop 0) [(2, a0), (0, a1), (0, a2)] [] v 115 := h
set_option maxRecDepth 100000 in
theorem sg_M_warm_0 {l : Launch} {G : zG} {d : Nat} {Q : Int → zH → Prop} {QX : Nat → zH → Prop} {K : Nat → List zV → List zV → zH → Nat → Prop} {a0 a1 a2 : Int} {v : zH} (h : zCL a0 = 11 ∧ zC l G 1 d h_M_isCell [(2, a0), (0, a1)] v 115 (fun r1 v1 =>
  ((r1 = 0 →
  ((0 : Int) = 0 ∨ (0 : Int) = 1) ∧ Q 0 v1) ∧
  (¬ r1 = 0 →
  zCL a0 = 11 ∧ zC l G 1 d h_M_ofStone [(2, a0), (0, a1), (0, 1)] v1 115 (fun r2 v2 =>
    zC l G 1 d h_M_in [(0, a2), (0, 0), (0, r2)] v2 115 (fun r3 v3 =>
    ((¬ r3 = 0 →
    zCL a0 = 11 ∧ zCL (a0 + 20) = 20 ∧ (0 ≤ a1 ∧ a1 < zLN (a0 + 20)) ∧ ((1 : Int) = 0 ∨ (1 : Int) = 1) ∧ Q 1 (zupd v3 (a0 + 20) a1 a2)) ∧
    (r3 = 0 →
    ((0 : Int) = 0 ∨ (0 : Int) = 1) ∧ Q 0 v3)))))))) : zx l G 1 (d + 1) h_M_warm k_M_warm 115 Q QX K 300 (k_M_warm.drop 0) [(2, a0), (0, a1), (0, a2)] [] v 115 := h
set_option maxRecDepth 100000 in
theorem sg_M_bake_0 {l : Launch} {G : zG} {d : Nat} {Q : Int → zH → Prop} {QX : Nat → zH → Prop} {K : Nat → List zV → List zV → zH → Nat → Prop} {a0 a1 a2 a3 : Int} {v : zH} (h : zCL a0 = 11 ∧ zI ((v a0 33) - 1) ∧ zC l G 1 d h_M_in [(0, a1), (0, 0), (0, (v a0 33) - 1)] v 115 (fun r1 v1 =>
  ((r1 = 0 →
  ((0 : Int) = 0 ∨ (0 : Int) = 1) ∧ Q 0 v1) ∧
  (¬ r1 = 0 →
  zC l G 1 d h_M_in [(0, a2), (0, 0), (0, 23)] v1 115 (fun r2 v2 =>
    ((r2 = 0 →
    ((0 : Int) = 0 ∨ (0 : Int) = 1) ∧ Q 0 v2) ∧
    (¬ r2 = 0 →
    zC l G 1 d h_M_in [(0, a3), (0, 0), (0, 23)] v2 115 (fun r3 v3 =>
      ((¬ r3 = 0 →
      zCL a0 = 11 ∧ zI (5 * a1) ∧ zI ((5 * a1) + 2) ∧ zCL (a0 + 17) = 20 ∧ (0 ≤ ((5 * a1) + 2) ∧ ((5 * a1) + 2) < zLN (a0 + 17)) ∧ zCL a0 = 11 ∧ zI (5 * a1) ∧ zI ((5 * a1) + 3) ∧ zCL (a0 + 17) = 20 ∧ (0 ≤ ((5 * a1) + 3) ∧ ((5 * a1) + 3) < zLN (a0 + 17)) ∧ ((1 : Int) = 0 ∨ (1 : Int) = 1) ∧ Q 1 (zupd (zupd v3 (a0 + 17) ((5 * a1) + 2) a2) (a0 + 17) ((5 * a1) + 3) a3)) ∧
      (r3 = 0 →
      ((0 : Int) = 0 ∨ (0 : Int) = 1) ∧ Q 0 v3)))))))))) : zx l G 1 (d + 1) h_M_bake k_M_bake 115 Q QX K 300 (k_M_bake.drop 0) [(2, a0), (0, a1), (0, a2), (0, a3)] [] v 115 := h
set_option maxRecDepth 100000 in
theorem sg_M_areHours_0 {l : Launch} {G : zG} {d : Nat} {Q : Int → zH → Prop} {QX : Nat → zH → Prop} {K : Nat → List zV → List zV → zH → Nat → Prop} {a0 a1 : Int} {v : zH} (h : zCL a0 = 11 ∧ (((v a0 31) ≤ 0 →
  ((0 : Int) = 0 ∨ (0 : Int) = 1) ∧ Q 0 v) ∧
  (0 < (v a0 31) →
  zC l G 1 d h_M_in [(0, a1), (0, 1), (0, 72)] v 115 (fun r1 v1 =>
    ((r1 = 0 →
    ((0 : Int) = 0 ∨ (0 : Int) = 1) ∧ Q 0 v1) ∧
    (¬ r1 = 0 →
    ((1 : Int) = 0 ∨ (1 : Int) = 1) ∧ Q 1 v1)))))) : zx l G 1 (d + 1) h_M_areHours k_M_areHours 115 Q QX K 300 (k_M_areHours.drop 0) [(2, a0), (0, a1)] [] v 115 := h
set_option maxRecDepth 100000 in
theorem sg_M_hours_0 {l : Launch} {G : zG} {d : Nat} {Q : Int → zH → Prop} {QX : Nat → zH → Prop} {K : Nat → List zV → List zV → zH → Nat → Prop} {a0 a1 : Int} {v : zH} (h : zCL a0 = 11 ∧ zC l G 1 d h_M_areHours [(2, a0), (0, a1)] v 115 (fun r1 v1 =>
  ((¬ r1 = 0 →
  K 8 [(2, a0), (0, a1), (0, 0), (3, 0)] [] v1 115) ∧
  (r1 = 0 →
  Q ((-1)) v1)))) : zx l G 1 (d + 1) h_M_hours k_M_hours 115 Q QX K 300 (k_M_hours.drop 0) [(2, a0), (0, a1), (3, 0), (3, 0)] [] v 115 := h
set_option maxRecDepth 100000 in
theorem sg_M_hours_8 {l : Launch} {G : zG} {d : Nat} {Q : Int → zH → Prop} {QX : Nat → zH → Prop} {K : Nat → List zV → List zV → zH → Nat → Prop} {a0 a1 a2 : Int} {v : zH} (h : ((a1 ≤ a2 →
  zCL a0 = 11 ∧ Q (v a0 36) v) ∧
  (a2 < a1 →
  zCL a0 = 11 ∧ ((¬ (v a0 46) = 60 →
    K 40 [(2, a0), (0, a1), (0, a2), (0, 0)] [] v 115) ∧
    ((v a0 46) = 60 →
    K 17 [(2, a0), (0, a1), (0, a2), (0, 36)] [] v 115))))) : zx l G 1 (d + 1) h_M_hours k_M_hours 115 Q QX K 300 (k_M_hours.drop 8) [(2, a0), (0, a1), (0, a2), (3, 0)] [] v 115 := h
set_option maxRecDepth 100000 in
theorem sg_M_hours_17 {l : Launch} {G : zG} {d : Nat} {Q : Int → zH → Prop} {QX : Nat → zH → Prop} {K : Nat → List zV → List zV → zH → Nat → Prop} {a0 a1 a2 a3 : Int} {v : zH} (h : ((2160 ≤ a3 →
  zCL a0 = 11 ∧ zI ((v a0 46) - 1) ∧ zCL a0 = 11 ∧ K 40 [(2, a0), (0, a1), (0, a2), (0, 0)] [] (zupd v a0 46 ((v a0 46) - 1)) 115) ∧
  (a3 < 2160 →
  zCL a0 = 11 ∧ zI (a3 - 36) ∧ zCL a0 = 11 ∧ zCL (a0 + 25) = 20 ∧ (0 ≤ a3 ∧ a3 < zLN (a0 + 25)) ∧ zCL (a0 + 25) = 20 ∧ (0 ≤ (a3 - 36) ∧ (a3 - 36) < zLN (a0 + 25)) ∧ zI (a3 + 1) ∧ K 17 [(2, a0), (0, a1), (0, a2), (0, a3 + 1)] [] (zupd v (a0 + 25) (a3 - 36) (v (a0 + 25) a3)) 115))) : zx l G 1 (d + 1) h_M_hours k_M_hours 115 Q QX K 300 (k_M_hours.drop 17) [(2, a0), (0, a1), (0, a2), (0, a3)] [] v 115 := h
set_option maxRecDepth 100000 in
theorem sg_M_hours_40 {l : Launch} {G : zG} {d : Nat} {Q : Int → zH → Prop} {QX : Nat → zH → Prop} {K : Nat → List zV → List zV → zH → Nat → Prop} {a0 a1 a2 a3 : Int} {v : zH} (h : ((36 ≤ a3 →
  zCL a0 = 11 ∧ zI ((v a0 46) + 1) ∧ zCL a0 = 11 ∧ zCL a0 = 11 ∧ zC l G 1 d h_M_pass [(2, a0)] (zupd v a0 46 ((v a0 46) + 1)) 115 (fun _ v1 =>
    zI (a2 + 1) ∧ K 8 [(2, a0), (0, a1), (0, a2 + 1), (3, 0)] [] v1 115)) ∧
  (a3 < 36 →
  zCL a0 = 11 ∧ zCL a0 = 11 ∧ zI (36 * (v a0 46)) ∧ zI ((36 * (v a0 46)) + a3) ∧ zCL a0 = 11 ∧ zCL (a0 + 20) = 20 ∧ (0 ≤ a3 ∧ a3 < zLN (a0 + 20)) ∧ zCL (a0 + 25) = 20 ∧ (0 ≤ ((36 * (v a0 46)) + a3) ∧ ((36 * (v a0 46)) + a3) < zLN (a0 + 25)) ∧ zI (a3 + 1) ∧ K 40 [(2, a0), (0, a1), (0, a2), (0, a3 + 1)] [] (zupd v (a0 + 25) ((36 * (v a0 46)) + a3) (v (a0 + 20) a3)) 115))) : zx l G 1 (d + 1) h_M_hours k_M_hours 115 Q QX K 300 (k_M_hours.drop 40) [(2, a0), (0, a1), (0, a2), (0, a3)] [] v 115 := h
set_option maxRecDepth 100000 in
theorem sg_M_undo_0 {l : Launch} {G : zG} {d : Nat} {Q : Int → zH → Prop} {QX : Nat → zH → Prop} {K : Nat → List zV → List zV → zH → Nat → Prop} {a0 : Int} {v : zH} (h : zCL a0 = 11 ∧ ((¬ (v a0 46) = 0 →
  zCL a0 = 11 ∧ zI ((v a0 46) - 1) ∧ zCL a0 = 11 ∧ K 13 [(2, a0), (0, 0)] [] (zupd v a0 46 ((v a0 46) - 1)) 115) ∧
  ((v a0 46) = 0 →
  Q ((-1)) v))) : zx l G 1 (d + 1) h_M_undo k_M_undo 115 Q QX K 300 (k_M_undo.drop 0) [(2, a0), (3, 0)] [] v 115 := h
set_option maxRecDepth 100000 in
theorem sg_M_undo_13 {l : Launch} {G : zG} {d : Nat} {Q : Int → zH → Prop} {QX : Nat → zH → Prop} {K : Nat → List zV → List zV → zH → Nat → Prop} {a0 a1 : Int} {v : zH} (h : ((36 ≤ a1 →
  zCL a0 = 11 ∧ zI ((v a0 36) - 1) ∧ zCL a0 = 11 ∧ zCL a0 = 11 ∧ Q ((zupd v a0 36 ((v a0 36) - 1)) a0 36) (zupd v a0 36 ((v a0 36) - 1))) ∧
  (a1 < 36 →
  zCL a0 = 11 ∧ zCL a0 = 11 ∧ zCL a0 = 11 ∧ zI (36 * (v a0 46)) ∧ zI ((36 * (v a0 46)) + a1) ∧ zCL (a0 + 25) = 20 ∧ (0 ≤ ((36 * (v a0 46)) + a1) ∧ ((36 * (v a0 46)) + a1) < zLN (a0 + 25)) ∧ zCL (a0 + 20) = 20 ∧ (0 ≤ a1 ∧ a1 < zLN (a0 + 20)) ∧ zI (a1 + 1) ∧ K 13 [(2, a0), (0, a1 + 1)] [] (zupd v (a0 + 20) a1 (v (a0 + 25) ((36 * (v a0 46)) + a1))) 115))) : zx l G 1 (d + 1) h_M_undo k_M_undo 115 Q QX K 300 (k_M_undo.drop 13) [(2, a0), (0, a1)] [] v 115 := h
set_option maxRecDepth 100000 in
theorem sg_M_feltAt_0 {l : Launch} {G : zG} {d : Nat} {Q : Int → zH → Prop} {QX : Nat → zH → Prop} {K : Nat → List zV → List zV → zH → Nat → Prop} {a0 a1 a2 : Int} {v : zH} (h : zCL a0 = 11 ∧ zC l G 1 d h_M_putAside [(2, a0)] v 115 (fun _ v1 =>
  zCL a0 = 11 ∧ zC l G 1 d h_M_passAll [(2, a0), (0, a2)] v1 115 (fun _ v2 =>
  zCL a0 = 11 ∧ zC l G 1 d h_M_takeBack [(2, a0)] v2 115 (fun _ v3 =>
  zCL a0 = 11 ∧ zCL (a0 + 23) = 20 ∧ (0 ≤ a1 ∧ a1 < zLN (a0 + 23)) ∧ Q (v3 (a0 + 23) a1) v3)))) : zx l G 1 (d + 1) h_M_feltAt k_M_feltAt 115 Q QX K 300 (k_M_feltAt.drop 0) [(2, a0), (0, a1), (0, a2)] [] v 115 := h
set_option maxRecDepth 100000 in
theorem sg_M_ahead_0 {l : Launch} {G : zG} {d : Nat} {Q : Int → zH → Prop} {QX : Nat → zH → Prop} {K : Nat → List zV → List zV → zH → Nat → Prop} {a0 a1 a2 a3 : Int} {v : zH} (h : zCL a0 = 11 ∧ zC l G 1 d h_M_isCell [(2, a0), (0, a1)] v 115 (fun r1 v1 =>
  ((r1 = 0 →
  Q ((-1)) v1) ∧
  (¬ r1 = 0 →
  zCL a0 = 11 ∧ zC l G 1 d h_M_areHours [(2, a0), (0, a2)] v1 115 (fun r2 v2 =>
    ((r2 = 0 →
    Q ((-1)) v2) ∧
    (¬ r2 = 0 →
    zC l G 1 d h_M_in [(0, a3), (0, 0), (0, 1)] v2 115 (fun r3 v3 =>
      ((¬ r3 = 0 →
      zCL a0 = 11 ∧ zC l G 1 d h_M_putAside [(2, a0)] v3 115 (fun _ v4 =>
        zCL a0 = 11 ∧ zC l G 1 d h_M_passAll [(2, a0), (0, a2)] v4 115 (fun _ v5 =>
        ((¬ a3 = 0 →
        zCL a0 = 11 ∧ zCL (a0 + 23) = 20 ∧ (0 ≤ a1 ∧ a1 < zLN (a0 + 23)) ∧ zCL a0 = 11 ∧ zC l G 1 d h_M_takeBack [(2, a0)] v5 115 (fun _ v6 =>
          Q (v5 (a0 + 23) a1) v6)) ∧
        (a3 = 0 →
        zCL a0 = 11 ∧ zCL (a0 + 20) = 20 ∧ (0 ≤ a1 ∧ a1 < zLN (a0 + 20)) ∧ zCL a0 = 11 ∧ zC l G 1 d h_M_takeBack [(2, a0)] v5 115 (fun _ v7 =>
          Q (v5 (a0 + 20) a1) v7)))))) ∧
      (r3 = 0 →
      Q ((-1)) v3)))))))))) : zx l G 1 (d + 1) h_M_ahead k_M_ahead 115 Q QX K 300 (k_M_ahead.drop 0) [(2, a0), (0, a1), (0, a2), (0, a3), (3, 0)] [] v 115 := h
set_option maxRecDepth 100000 in
theorem sg_M_airOf_0 {l : Launch} {G : zG} {d : Nat} {Q : Int → zH → Prop} {QX : Nat → zH → Prop} {K : Nat → List zV → List zV → zH → Nat → Prop} {a0 a1 : Int} {v : zH} (h : zCL a0 = 11 ∧ zC l G 1 d h_M_putAside [(2, a0)] v 115 (fun _ v1 =>
  K 6 [(2, a0), (0, a1), (0, 0), (0, 0), (3, 0)] [] v1 115)) : zx l G 1 (d + 1) h_M_airOf k_M_airOf 115 Q QX K 300 (k_M_airOf.drop 0) [(2, a0), (0, a1), (3, 0), (3, 0), (3, 0)] [] v 115 := h
set_option maxRecDepth 100000 in
theorem sg_M_airOf_6 {l : Launch} {G : zG} {d : Nat} {Q : Int → zH → Prop} {QX : Nat → zH → Prop} {K : Nat → List zV → List zV → zH → Nat → Prop} {a0 a1 a2 a3 : Int} {v : zH} (h : ((a1 ≤ a3 →
  zCL a0 = 11 ∧ zC l G 1 d h_M_takeBack [(2, a0)] v 115 (fun _ v1 =>
    Q a2 v1)) ∧
  (a3 < a1 →
  zCL a0 = 11 ∧ zC l G 1 d h_M_pass [(2, a0)] v 115 (fun _ v2 =>
    K 13 [(2, a0), (0, a1), (0, a2), (0, a3), (0, 0)] [] v2 115)))) : zx l G 1 (d + 1) h_M_airOf k_M_airOf 115 Q QX K 300 (k_M_airOf.drop 6) [(2, a0), (0, a1), (0, a2), (0, a3), (3, 0)] [] v 115 := h
set_option maxRecDepth 100000 in
theorem sg_M_airOf_13 {l : Launch} {G : zG} {d : Nat} {Q : Int → zH → Prop} {QX : Nat → zH → Prop} {K : Nat → List zV → List zV → zH → Nat → Prop} {a0 a1 a2 a3 a4 : Int} {v : zH} (h : ((36 ≤ a4 →
  zI (a3 + 1) ∧ K 6 [(2, a0), (0, a1), (0, a2), (0, a3 + 1), (3, 0)] [] v 115) ∧
  (a4 < 36 →
  zCL a0 = 11 ∧ zC l G 1 d h_M_isCell [(2, a0), (0, a4)] v 115 (fun r1 v1 =>
    ((r1 = 0 →
    zI (a2 + 0) ∧ zI (a4 + 1) ∧ K 13 [(2, a0), (0, a1), (0, a2 + 0), (0, a3), (0, a4 + 1)] [] v1 115) ∧
    (¬ r1 = 0 →
    zCL a0 = 11 ∧ zCL (a0 + 23) = 20 ∧ (0 ≤ a4 ∧ a4 < zLN (a0 + 23)) ∧ zI (a2 + (v1 (a0 + 23) a4)) ∧ zI (a4 + 1) ∧ K 13 [(2, a0), (0, a1), (0, a2 + (v1 (a0 + 23) a4)), (0, a3), (0, a4 + 1)] [] v1 115)))))) : zx l G 1 (d + 1) h_M_airOf k_M_airOf 115 Q QX K 300 (k_M_airOf.drop 13) [(2, a0), (0, a1), (0, a2), (0, a3), (0, a4)] [] v 115 := h
set_option maxRecDepth 100000 in
theorem sg_M_air_0 {l : Launch} {G : zG} {d : Nat} {Q : Int → zH → Prop} {QX : Nat → zH → Prop} {K : Nat → List zV → List zV → zH → Nat → Prop} {a0 a1 : Int} {v : zH} (h : zCL a0 = 11 ∧ zC l G 1 d h_M_areHours [(2, a0), (0, a1)] v 115 (fun r1 v1 =>
  ((r1 = 0 →
  Q ((-1)) v1) ∧
  (¬ r1 = 0 →
  zCL a0 = 11 ∧ zC l G 1 d h_M_airOf [(2, a0), (0, a1)] v1 115 (fun r2 v2 =>
    Q r2 v2))))) : zx l G 1 (d + 1) h_M_air k_M_air 115 Q QX K 300 (k_M_air.drop 0) [(2, a0), (0, a1)] [] v 115 := h
set_option maxRecDepth 100000 in
theorem sg_M_layNight_0 {l : Launch} {G : zG} {d : Nat} {Q : Int → zH → Prop} {QX : Nat → zH → Prop} {K : Nat → List zV → List zV → zH → Nat → Prop} {a0 : Int} {v : zH} (h : zCL a0 = 11 ∧ zC l G 1 d h_M_putAside [(2, a0)] v 115 (fun _ v1 =>
  K 2 [(2, a0), (3, 0), (3, 0)] [] v1 115)) : zx l G 1 (d + 1) h_M_layNight k_M_layNight 115 Q QX K 300 (k_M_layNight.drop 0) [(2, a0), (3, 0), (3, 0)] [] v 115 := h
set_option maxRecDepth 100000 in
theorem sg_M_layNight_2 {l : Launch} {G : zG} {d : Nat} {Q : Int → zH → Prop} {QX : Nat → zH → Prop} {K : Nat → List zV → List zV → zH → Nat → Prop} {a0 : Int} {v : zH} (h : zCL a0 = 11 ∧ ((((v a0 36).tmod 24) = 20 →
  K 13 [(2, a0), (0, 0), (3, 0)] [] v 115) ∧
  (¬ ((v a0 36).tmod 24) = 20 →
  zCL a0 = 11 ∧ zC l G 1 d h_M_pass [(2, a0)] v 115 (fun _ v1 =>
    K 2 [(2, a0), (3, 0), (3, 0)] [] v1 115)))) : zx l G 1 (d + 1) h_M_layNight k_M_layNight 115 Q QX K 300 (k_M_layNight.drop 2) [(2, a0), (3, 0), (3, 0)] [] v 115 := h
set_option maxRecDepth 100000 in
theorem sg_M_layNight_13 {l : Launch} {G : zG} {d : Nat} {Q : Int → zH → Prop} {QX : Nat → zH → Prop} {K : Nat → List zV → List zV → zH → Nat → Prop} {a0 a1 : Int} {v : zH} (h : ((9 ≤ a1 →
  zCL a0 = 11 ∧ zC l G 1 d h_M_takeBack [(2, a0)] v 115 (fun _ v1 =>
    Q 0 v1)) ∧
  (a1 < 9 →
  zCL a0 = 11 ∧ zC l G 1 d h_M_pass [(2, a0)] v 115 (fun _ v2 =>
    K 20 [(2, a0), (0, a1), (0, 0)] [] v2 115)))) : zx l G 1 (d + 1) h_M_layNight k_M_layNight 115 Q QX K 300 (k_M_layNight.drop 13) [(2, a0), (0, a1), (3, 0)] [] v 115 := h
set_option maxRecDepth 100000 in
theorem sg_M_layNight_20 {l : Launch} {G : zG} {d : Nat} {Q : Int → zH → Prop} {QX : Nat → zH → Prop} {K : Nat → List zV → List zV → zH → Nat → Prop} {a0 a1 a2 : Int} {v : zH} (h : ((36 ≤ a2 →
  zI (a1 + 1) ∧ K 13 [(2, a0), (0, a1 + 1), (3, 0)] [] v 115) ∧
  (a2 < 36 →
  zCL a0 = 11 ∧ ((¬ a1 = 0 →
    zCL a0 = 11 ∧ zCL (a0 + 26) = 20 ∧ (0 ≤ a2 ∧ a2 < zLN (a0 + 26)) ∧ zCL a0 = 11 ∧ zCL (a0 + 23) = 20 ∧ (0 ≤ a2 ∧ a2 < zLN (a0 + 23)) ∧ zCL (a0 + 26) = 20 ∧ (0 ≤ a2 ∧ a2 < zLN (a0 + 26)) ∧ zI (a2 + 1) ∧ K 20 [(2, a0), (0, a1), (0, a2 + 1)] [] (zupd v (a0 + 26) a2 (min (v (a0 + 26) a2) (v (a0 + 23) a2))) 115) ∧
    (a1 = 0 →
    zCL a0 = 11 ∧ zCL (a0 + 23) = 20 ∧ (0 ≤ a2 ∧ a2 < zLN (a0 + 23)) ∧ zCL (a0 + 26) = 20 ∧ (0 ≤ a2 ∧ a2 < zLN (a0 + 26)) ∧ zI (a2 + 1) ∧ K 20 [(2, a0), (0, a1), (0, a2 + 1)] [] (zupd v (a0 + 26) a2 (v (a0 + 23) a2)) 115))))) : zx l G 1 (d + 1) h_M_layNight k_M_layNight 115 Q QX K 300 (k_M_layNight.drop 20) [(2, a0), (0, a1), (0, a2)] [] v 115 := h
set_option maxRecDepth 100000 in
theorem sg_M_comfort_0 {l : Launch} {G : zG} {d : Nat} {Q : Int → zH → Prop} {QX : Nat → zH → Prop} {K : Nat → List zV → List zV → zH → Nat → Prop} {a0 a1 a2 : Int} {v : zH} (h : zCL a0 = 11 ∧ zC l G 1 d h_M_isSleeper [(2, a0), (0, a1)] v 115 (fun r1 v1 =>
  ((r1 = 0 →
  Q ((-1)) v1) ∧
  (¬ r1 = 0 →
  zCL a0 = 11 ∧ zC l G 1 d h_M_isCell [(2, a0), (0, a2)] v1 115 (fun r2 v2 =>
    ((¬ r2 = 0 →
    zCL a0 = 11 ∧ zC l G 1 d h_M_layNight [(2, a0)] v2 115 (fun _ v3 =>
      zCL a0 = 11 ∧ zCL (a0 + 26) = 20 ∧ (0 ≤ a2 ∧ a2 < zLN (a0 + 26)) ∧ zCL a0 = 11 ∧ zI (2 * a1) ∧ zI ((2 * a1) + 1) ∧ zCL (a0 + 18) = 20 ∧ (0 ≤ ((2 * a1) + 1) ∧ ((2 * a1) + 1) < zLN (a0 + 18)) ∧ zI ((v3 (a0 + 26) a2) + (v3 (a0 + 18) ((2 * a1) + 1))) ∧ Q ((v3 (a0 + 26) a2) + (v3 (a0 + 18) ((2 * a1) + 1))) v3)) ∧
    (r2 = 0 →
    Q ((-1)) v2))))))) : zx l G 1 (d + 1) h_M_comfort k_M_comfort 115 Q QX K 300 (k_M_comfort.drop 0) [(2, a0), (0, a1), (0, a2)] [] v 115 := h
set_option maxRecDepth 100000 in
theorem sg_M_bestFree_0 {l : Launch} {G : zG} {d : Nat} {Q : Int → zH → Prop} {QX : Nat → zH → Prop} {K : Nat → List zV → List zV → zH → Nat → Prop} {a0 a1 : Int} {v : zH} (h : K 4 [(2, a0), (2, a1), (0, (-1)), (0, 0)] [] v 115) : zx l G 1 (d + 1) h_M_bestFree k_M_bestFree 115 Q QX K 300 (k_M_bestFree.drop 0) [(2, a0), (2, a1), (3, 0), (3, 0)] [] v 115 := h
set_option maxRecDepth 100000 in
theorem sg_M_bestFree_4 {l : Launch} {G : zG} {d : Nat} {Q : Int → zH → Prop} {QX : Nat → zH → Prop} {K : Nat → List zV → List zV → zH → Nat → Prop} {a0 a1 a2 a3 : Int} {v : zH} (h : ((36 ≤ a3 →
  Q a2 v) ∧
  (a3 < 36 →
  zCL a0 = 11 ∧ zC l G 1 d h_M_isCell [(2, a0), (0, a3)] v 115 (fun r1 v1 =>
    ((r1 = 0 →
    zI (a3 + 1) ∧ K 4 [(2, a0), (2, a1), (0, a2), (0, a3 + 1)] [] v1 115) ∧
    (¬ r1 = 0 →
    zCL a1 = 21 ∧ (0 ≤ a3 ∧ a3 < zLN a1) ∧ ((¬ (v1 a1 a3) = 0 →
      zI (a3 + 1) ∧ K 4 [(2, a0), (2, a1), (0, a2), (0, a3 + 1)] [] v1 115) ∧
      ((v1 a1 a3) = 0 →
      ((a2 = ((-1)) →
        zI (a3 + 1) ∧ K 4 [(2, a0), (2, a1), (0, a3), (0, a3 + 1)] [] v1 115) ∧
        (¬ a2 = ((-1)) →
        zCL a0 = 11 ∧ zCL (a0 + 26) = 20 ∧ (0 ≤ a3 ∧ a3 < zLN (a0 + 26)) ∧ zCL a0 = 11 ∧ zCL (a0 + 26) = 20 ∧ (0 ≤ a2 ∧ a2 < zLN (a0 + 26)) ∧ (((v1 (a0 + 26) a3) ≤ (v1 (a0 + 26) a2) →
          zI (a3 + 1) ∧ K 4 [(2, a0), (2, a1), (0, a2), (0, a3 + 1)] [] v1 115) ∧
          ((v1 (a0 + 26) a2) < (v1 (a0 + 26) a3) →
          zI (a3 + 1) ∧ K 4 [(2, a0), (2, a1), (0, a3), (0, a3 + 1)] [] v1 115)))))))))))) : zx l G 1 (d + 1) h_M_bestFree k_M_bestFree 115 Q QX K 300 (k_M_bestFree.drop 4) [(2, a0), (2, a1), (0, a2), (0, a3)] [] v 115 := h
set_option maxRecDepth 100000 in
theorem sg_M_choice_0 {l : Launch} {G : zG} {d : Nat} {Q : Int → zH → Prop} {QX : Nat → zH → Prop} {K : Nat → List zV → List zV → zH → Nat → Prop} {a0 a1 : Int} {v : zH} (h : zCL a0 = 11 ∧ zC l G 1 d h_M_isSleeper [(2, a0), (0, a1)] v 115 (fun r1 v1 =>
  ((¬ r1 = 0 →
  zCL a0 = 11 ∧ zC l G 1 d h_M_layNight [(2, a0)] v1 115 (fun _ v2 =>
    K 10 [(2, a0), (0, a1), (0, 0), (3, 0)] [] v2 115)) ∧
  (r1 = 0 →
  Q ((-1)) v1)))) : zx l G 1 (d + 1) h_M_choice k_M_choice 115 Q QX K 300 (k_M_choice.drop 0) [(2, a0), (0, a1), (3, 0), (3, 0)] [] v 115 := h
set_option maxRecDepth 100000 in
theorem sg_M_choice_10 {l : Launch} {G : zG} {d : Nat} {Q : Int → zH → Prop} {QX : Nat → zH → Prop} {K : Nat → List zV → List zV → zH → Nat → Prop} {a0 a1 a2 : Int} {v : zH} (h : ((36 ≤ a2 →
  K 24 [(2, a0), (0, a1), (0, (-1)), (0, 0)] [] v 115) ∧
  (a2 < 36 →
  zCL a0 = 11 ∧ zCL (a0 + 27) = 21 ∧ (0 ≤ a2 ∧ a2 < zLN (a0 + 27)) ∧ ((0 : Int) = 0 ∨ (0 : Int) = 1) ∧ zI (a2 + 1) ∧ K 10 [(2, a0), (0, a1), (0, a2 + 1), (3, 0)] [] (zupd v (a0 + 27) a2 0) 115))) : zx l G 1 (d + 1) h_M_choice k_M_choice 115 Q QX K 300 (k_M_choice.drop 10) [(2, a0), (0, a1), (0, a2), (3, 0)] [] v 115 := h
set_option maxRecDepth 100000 in
theorem sg_M_choice_24 {l : Launch} {G : zG} {d : Nat} {Q : Int → zH → Prop} {QX : Nat → zH → Prop} {K : Nat → List zV → List zV → zH → Nat → Prop} {a0 a1 a2 a3 : Int} {v : zH} (h : ((a1 < a3 →
  Q a2 v) ∧
  (a3 ≤ a1 →
  zCL a0 = 11 ∧ zCL a0 = 11 ∧ zC l G 1 d h_M_bestFree [(2, a0), (2, a0 + 27)] v 115 (fun r1 v1 =>
    ((r1 = ((-1)) →
    zI (a3 + 1) ∧ K 24 [(2, a0), (0, a1), (0, r1), (0, a3 + 1)] [] v1 115) ∧
    (¬ r1 = ((-1)) →
    zCL a0 = 11 ∧ zCL (a0 + 27) = 21 ∧ (0 ≤ r1 ∧ r1 < zLN (a0 + 27)) ∧ ((1 : Int) = 0 ∨ (1 : Int) = 1) ∧ zI (a3 + 1) ∧ K 24 [(2, a0), (0, a1), (0, r1), (0, a3 + 1)] [] (zupd v1 (a0 + 27) r1 1) 115)))))) : zx l G 1 (d + 1) h_M_choice k_M_choice 115 Q QX K 300 (k_M_choice.drop 24) [(2, a0), (0, a1), (0, a2), (0, a3)] [] v 115 := h
set_option maxRecDepth 100000 in
theorem sg_M_canSleep_0 {l : Launch} {G : zG} {d : Nat} {Q : Int → zH → Prop} {QX : Nat → zH → Prop} {K : Nat → List zV → List zV → zH → Nat → Prop} {a0 a1 : Int} {v : zH} (h : K 2 [(2, a0), (0, a1), (0, 0), (3, 0), (3, 0)] [] v 115) : zx l G 1 (d + 1) h_M_canSleep k_M_canSleep 115 Q QX K 300 (k_M_canSleep.drop 0) [(2, a0), (0, a1), (3, 0), (3, 0), (3, 0)] [] v 115 := h
set_option maxRecDepth 100000 in
theorem sg_M_canSleep_2 {l : Launch} {G : zG} {d : Nat} {Q : Int → zH → Prop} {QX : Nat → zH → Prop} {K : Nat → List zV → List zV → zH → Nat → Prop} {a0 a1 a2 : Int} {v : zH} (h : ((36 ≤ a2 →
  K 14 [(2, a0), (3, 0), (0, a1), (3, 0), (3, 0)] [] v 115) ∧
  (a2 < 36 →
  zCL a0 = 11 ∧ zCL (a0 + 27) = 21 ∧ (0 ≤ a2 ∧ a2 < zLN (a0 + 27)) ∧ ((0 : Int) = 0 ∨ (0 : Int) = 1) ∧ zI (a2 + 1) ∧ K 2 [(2, a0), (0, a1), (0, a2 + 1), (3, 0), (3, 0)] [] (zupd v (a0 + 27) a2 0) 115))) : zx l G 1 (d + 1) h_M_canSleep k_M_canSleep 115 Q QX K 300 (k_M_canSleep.drop 2) [(2, a0), (0, a1), (0, a2), (3, 0), (3, 0)] [] v 115 := h
set_option maxRecDepth 100000 in
theorem sg_M_canSleep_14 {l : Launch} {G : zG} {d : Nat} {Q : Int → zH → Prop} {QX : Nat → zH → Prop} {K : Nat → List zV → List zV → zH → Nat → Prop} {a0 a2 : Int} {v : zH} (h : ((a2 = 0 →
  ((1 : Int) = 0 ∨ (1 : Int) = 1) ∧ Q 1 v) ∧
  (¬ a2 = 0 →
  K 20 [(2, a0), (3, 0), (0, a2), (0, (-1)), (0, 0)] [] v 115))) : zx l G 1 (d + 1) h_M_canSleep k_M_canSleep 115 Q QX K 300 (k_M_canSleep.drop 14) [(2, a0), (3, 0), (0, a2), (3, 0), (3, 0)] [] v 115 := h
set_option maxRecDepth 100000 in
theorem sg_M_canSleep_20 {l : Launch} {G : zG} {d : Nat} {Q : Int → zH → Prop} {QX : Nat → zH → Prop} {K : Nat → List zV → List zV → zH → Nat → Prop} {a0 a2 a3 a4 : Int} {v : zH} (h : zCL a0 = 11 ∧ (((v a0 34) ≤ a4 →
  zCL a0 = 11 ∧ zCL a0 = 11 ∧ zC l G 1 d h_M_bestFree [(2, a0), (2, a0 + 27)] v 115 (fun r1 v1 =>
    ((r1 = ((-1)) →
    ((0 : Int) = 0 ∨ (0 : Int) = 1) ∧ Q 0 v1) ∧
    (¬ r1 = ((-1)) →
    zCL a0 = 11 ∧ zCL (a0 + 26) = 20 ∧ (0 ≤ r1 ∧ r1 < zLN (a0 + 26)) ∧ zCL a0 = 11 ∧ zC l G 1 d h_M_wants [(2, a0), (0, a3)] v1 115 (fun r2 v2 =>
      ((r2 ≤ (v1 (a0 + 26) r1) →
      zCL a0 = 11 ∧ zCL (a0 + 27) = 21 ∧ (0 ≤ r1 ∧ r1 < zLN (a0 + 27)) ∧ ((1 : Int) = 0 ∨ (1 : Int) = 1) ∧ K 14 [(2, a0), (3, 0), (0, zand a2 (zxor (zshl 1 a3) ((-1)))), (3, 0), (3, 0)] [] (zupd v2 (a0 + 27) r1 1) 115) ∧
      ((v1 (a0 + 26) r1) < r2 →
      ((0 : Int) = 0 ∨ (0 : Int) = 1) ∧ Q 0 v2))))))) ∧
  (a4 < (v a0 34) →
  zC l G 1 d h_M_has [(0, a2), (0, a4)] v 115 (fun r3 v3 =>
    ((r3 = 0 →
    zI (a4 + 1) ∧ K 20 [(2, a0), (3, 0), (0, a2), (0, a3), (0, a4 + 1)] [] v3 115) ∧
    (¬ r3 = 0 →
    ((a3 = ((-1)) →
      zI (a4 + 1) ∧ K 20 [(2, a0), (3, 0), (0, a2), (0, a4), (0, a4 + 1)] [] v3 115) ∧
      (¬ a3 = ((-1)) →
      zCL a0 = 11 ∧ zC l G 1 d h_M_wants [(2, a0), (0, a4)] v3 115 (fun r4 v4 =>
        zCL a0 = 11 ∧ zC l G 1 d h_M_wants [(2, a0), (0, a3)] v4 115 (fun r5 v5 =>
        ((r4 ≤ r5 →
        zI (a4 + 1) ∧ K 20 [(2, a0), (3, 0), (0, a2), (0, a3), (0, a4 + 1)] [] v5 115) ∧
        (r5 < r4 →
        zI (a4 + 1) ∧ K 20 [(2, a0), (3, 0), (0, a2), (0, a4), (0, a4 + 1)] [] v5 115)))))))))))) : zx l G 1 (d + 1) h_M_canSleep k_M_canSleep 115 Q QX K 300 (k_M_canSleep.drop 20) [(2, a0), (3, 0), (0, a2), (0, a3), (0, a4)] [] v 115 := h
set_option maxRecDepth 100000 in
theorem sg_M_wants_0 {l : Launch} {G : zG} {d : Nat} {Q : Int → zH → Prop} {QX : Nat → zH → Prop} {K : Nat → List zV → List zV → zH → Nat → Prop} {a0 a1 : Int} {v : zH} (h : zCL a0 = 11 ∧ zI (2 * a1) ∧ zCL (a0 + 18) = 20 ∧ (0 ≤ (2 * a1) ∧ (2 * a1) < zLN (a0 + 18)) ∧ zCL a0 = 11 ∧ zI (2 * a1) ∧ zI ((2 * a1) + 1) ∧ zCL (a0 + 18) = 20 ∧ (0 ≤ ((2 * a1) + 1) ∧ ((2 * a1) + 1) < zLN (a0 + 18)) ∧ zI ((v (a0 + 18) (2 * a1)) - (v (a0 + 18) ((2 * a1) + 1))) ∧ Q ((v (a0 + 18) (2 * a1)) - (v (a0 + 18) ((2 * a1) + 1))) v) : zx l G 1 (d + 1) h_M_wants k_M_wants 115 Q QX K 300 (k_M_wants.drop 0) [(2, a0), (0, a1)] [] v 115 := h
set_option maxRecDepth 100000 in
theorem sg_M_most_0 {l : Launch} {G : zG} {d : Nat} {Q : Int → zH → Prop} {QX : Nat → zH → Prop} {K : Nat → List zV → List zV → zH → Nat → Prop} {a0 a1 : Int} {v : zH} (h : zCL a0 = 11 ∧ (((v a0 31) = 0 →
  Q ((-1)) v) ∧
  (¬ (v a0 31) = 0 →
  zC l G 1 d h_M_in [(0, a1), (0, 0), (0, 1)] v 115 (fun r1 v1 =>
    ((¬ r1 = 0 →
    zCL a0 = 11 ∧ zC l G 1 d h_M_layNight [(2, a0)] v1 115 (fun _ v2 =>
      K 16 [(2, a0), (0, a1), (0, 0), (0, 1)] [] v2 115)) ∧
    (r1 = 0 →
    Q ((-1)) v1)))))) : zx l G 1 (d + 1) h_M_most k_M_most 115 Q QX K 300 (k_M_most.drop 0) [(2, a0), (0, a1), (3, 0), (3, 0)] [] v 115 := h
set_option maxRecDepth 100000 in
theorem sg_M_most_16 {l : Launch} {G : zG} {d : Nat} {Q : Int → zH → Prop} {QX : Nat → zH → Prop} {K : Nat → List zV → List zV → zH → Nat → Prop} {a0 a1 a2 a3 : Int} {v : zH} (h : zCL a0 = 11 ∧ (((zshl 1 (v a0 34)) ≤ a3 →
  ((¬ a1 = 0 →
    Q a2 v) ∧
    (a1 = 0 →
    zC l G 1 d h_Intg_bitCount [(0, a2)] v 115 (fun r1 v1 =>
      Q r1 v1)))) ∧
  (a3 < (zshl 1 (v a0 34)) →
  zC l G 1 d h_Intg_bitCount [(0, a3)] v 115 (fun r2 v2 =>
    zC l G 1 d h_Intg_bitCount [(0, a2)] v2 115 (fun r3 v3 =>
    ((r2 < r3 →
    zI (a3 + 1) ∧ K 16 [(2, a0), (0, a1), (0, a2), (0, a3 + 1)] [] v3 115) ∧
    (r3 ≤ r2 →
    zCL a0 = 11 ∧ zC l G 1 d h_M_canSleep [(2, a0), (0, a3)] v3 115 (fun r4 v4 =>
      ((r4 = 0 →
      zI (a3 + 1) ∧ K 16 [(2, a0), (0, a1), (0, a2), (0, a3 + 1)] [] v4 115) ∧
      (¬ r4 = 0 →
      zI (a3 + 1) ∧ K 16 [(2, a0), (0, a1), (0, a3), (0, a3 + 1)] [] v4 115)))))))))) : zx l G 1 (d + 1) h_M_most k_M_most 115 Q QX K 300 (k_M_most.drop 16) [(2, a0), (0, a1), (0, a2), (0, a3)] [] v 115 := h
set_option maxRecDepth 100000 in
theorem sg_M_lay_0 {l : Launch} {G : zG} {d : Nat} {Q : Int → zH → Prop} {QX : Nat → zH → Prop} {K : Nat → List zV → List zV → zH → Nat → Prop} {a0 a1 a2 : Int} {v : zH} (h : zCL a0 = 11 ∧ zCL (a0 + 19) = 20 ∧ (0 ≤ a1 ∧ a1 < zLN (a0 + 19)) ∧ zCL a0 = 11 ∧ zCL a0 = 11 ∧ zCL (a0 + 20) = 20 ∧ (0 ≤ a1 ∧ a1 < zLN (a0 + 20)) ∧ zCL a0 = 11 ∧ zCL a0 = 11 ∧ zCL (a0 + 19) = 20 ∧ (0 ≤ a1 ∧ a1 < zLN (a0 + 19)) ∧ zCL a0 = 11 ∧ zCL a0 = 11 ∧ zCL (a0 + 20) = 20 ∧ (0 ≤ a1 ∧ a1 < zLN (a0 + 20)) ∧ zCL a0 = 11 ∧ zC l G 1 d h_M_ofStone [(2, a0), (0, a1), (0, 1)] (zupd (zupd (zupd v a0 49 (v (a0 + 19) a1)) a0 50 ((zupd v a0 49 (v (a0 + 19) a1)) (a0 + 20) a1)) (a0 + 19) a1 a2) 115 (fun r1 v1 =>
  zCL (a0 + 20) = 20 ∧ (0 ≤ a1 ∧ a1 < zLN (a0 + 20)) ∧ Q 0 (zupd v1 (a0 + 20) a1 (min ((zupd (zupd (zupd v a0 49 (v (a0 + 19) a1)) a0 50 ((zupd v a0 49 (v (a0 + 19) a1)) (a0 + 20) a1)) (a0 + 19) a1 a2) (a0 + 20) a1) r1)))) : zx l G 1 (d + 1) h_M_lay k_M_lay 115 Q QX K 300 (k_M_lay.drop 0) [(2, a0), (0, a1), (0, a2)] [] v 115 := h
set_option maxRecDepth 100000 in
theorem sg_M_layBack_0 {l : Launch} {G : zG} {d : Nat} {Q : Int → zH → Prop} {QX : Nat → zH → Prop} {K : Nat → List zV → List zV → zH → Nat → Prop} {a0 a1 a2 a3 : Int} {v : zH} (h : zCL a0 = 11 ∧ zCL (a0 + 19) = 20 ∧ (0 ≤ a1 ∧ a1 < zLN (a0 + 19)) ∧ zCL a0 = 11 ∧ zCL (a0 + 20) = 20 ∧ (0 ≤ a1 ∧ a1 < zLN (a0 + 20)) ∧ Q 0 (zupd (zupd v (a0 + 19) a1 a2) (a0 + 20) a1 a3)) : zx l G 1 (d + 1) h_M_layBack k_M_layBack 115 Q QX K 300 (k_M_layBack.drop 0) [(2, a0), (0, a1), (0, a2), (0, a3)] [] v 115 := h
set_option maxRecDepth 100000 in
theorem sg_M_changed_0 {l : Launch} {G : zG} {d : Nat} {Q : Int → zH → Prop} {QX : Nat → zH → Prop} {K : Nat → List zV → List zV → zH → Nat → Prop} {a0 a1 a2 a3 : Int} {v : zH} (h : zCL a0 = 11 ∧ zC l G 1 d h_M_isCell [(2, a0), (0, a1)] v 115 (fun r1 v1 =>
  ((r1 = 0 →
  Q ((-1)) v1) ∧
  (¬ r1 = 0 →
  zCL a0 = 11 ∧ zC l G 1 d h_M_areHours [(2, a0), (0, a2)] v1 115 (fun r2 v2 =>
    ((r2 = 0 →
    Q ((-1)) v2) ∧
    (¬ r2 = 0 →
    zC l G 1 d h_M_in [(0, a3), (0, 0), (0, 1)] v2 115 (fun r3 v3 =>
      ((¬ r3 = 0 →
      K 21 [(2, a0), (0, a1), (0, a2), (0, a3), (0, (-1)), (0, 0), (0, 0), (3, 0), (3, 0), (3, 0), (3, 0)] [] v3 115) ∧
      (r3 = 0 →
      Q ((-1)) v3)))))))))) : zx l G 1 (d + 1) h_M_changed k_M_changed 115 Q QX K 300 (k_M_changed.drop 0) [(2, a0), (0, a1), (0, a2), (0, a3), (3, 0), (3, 0), (3, 0), (3, 0), (3, 0), (3, 0), (3, 0)] [] v 115 := h
set_option maxRecDepth 100000 in
theorem sg_M_changed_21 {l : Launch} {G : zG} {d : Nat} {Q : Int → zH → Prop} {QX : Nat → zH → Prop} {K : Nat → List zV → List zV → zH → Nat → Prop} {a0 a1 a2 a3 a4 a5 a6 : Int} {v : zH} (h : ((36 ≤ a6 →
  ((¬ a3 = 0 →
    Q a5 v) ∧
    (a3 = 0 →
    Q a4 v))) ∧
  (a6 < 36 →
  K 26 [(2, a0), (0, a1), (0, a2), (0, a3), (0, a4), (0, a5), (0, a6), (0, 0), (3, 0), (3, 0), (3, 0)] [] v 115))) : zx l G 1 (d + 1) h_M_changed k_M_changed 115 Q QX K 300 (k_M_changed.drop 21) [(2, a0), (0, a1), (0, a2), (0, a3), (0, a4), (0, a5), (0, a6), (3, 0), (3, 0), (3, 0), (3, 0)] [] v 115 := h
set_option maxRecDepth 100000 in
theorem sg_M_changed_26 {l : Launch} {G : zG} {d : Nat} {Q : Int → zH → Prop} {QX : Nat → zH → Prop} {K : Nat → List zV → List zV → zH → Nat → Prop} {a0 a1 a2 a3 a4 a5 a6 a7 : Int} {v : zH} (h : zCL a0 = 11 ∧ (((v a0 30) ≤ a7 →
  zI (a6 + 1) ∧ K 21 [(2, a0), (0, a1), (0, a2), (0, a3), (0, a4), (0, a5), (0, a6 + 1), (3, 0), (3, 0), (3, 0), (3, 0)] [] v 115) ∧
  (a7 < (v a0 30) →
  zCL a0 = 11 ∧ zC l G 1 d h_M_isCell [(2, a0), (0, a6)] v 115 (fun r1 v1 =>
    ((r1 = 0 →
    zI (a6 + 1) ∧ K 21 [(2, a0), (0, a1), (0, a2), (0, a3), (0, a4), (0, a5), (0, a6 + 1), (3, 0), (3, 0), (3, 0), (3, 0)] [] v1 115) ∧
    (¬ r1 = 0 →
    zCL a0 = 11 ∧ zC l G 1 d h_M_lay [(2, a0), (0, a6), (0, a7)] v1 115 (fun _ v2 =>
      zCL a0 = 11 ∧ zCL a0 = 11 ∧ zCL a0 = 11 ∧ zC l G 1 d h_M_feltAt [(2, a0), (0, a1), (0, a2)] v2 115 (fun r3 v3 =>
      zCL a0 = 11 ∧ zC l G 1 d h_M_layBack [(2, a0), (0, a6), (0, v2 a0 49), (0, v2 a0 50)] v3 115 (fun _ v4 =>
      ((a4 = ((-1)) →
      zI (10 * a6) ∧ zI ((10 * a6) + a7) ∧ zI (a7 + 1) ∧ K 26 [(2, a0), (0, a1), (0, a2), (0, a3), (0, (10 * a6) + a7), (0, r3), (0, a6), (0, a7 + 1), (3, 0), (3, 0), (3, 0)] [] v4 115) ∧
      (¬ a4 = ((-1)) →
      ((r3 ≤ a5 →
        zI (a7 + 1) ∧ K 26 [(2, a0), (0, a1), (0, a2), (0, a3), (0, a4), (0, a5), (0, a6), (0, a7 + 1), (3, 0), (3, 0), (3, 0)] [] v4 115) ∧
        (a5 < r3 →
        zI (10 * a6) ∧ zI ((10 * a6) + a7) ∧ zI (a7 + 1) ∧ K 26 [(2, a0), (0, a1), (0, a2), (0, a3), (0, (10 * a6) + a7), (0, r3), (0, a6), (0, a7 + 1), (3, 0), (3, 0), (3, 0)] [] v4 115))))))))))))) : zx l G 1 (d + 1) h_M_changed k_M_changed 115 Q QX K 300 (k_M_changed.drop 26) [(2, a0), (0, a1), (0, a2), (0, a3), (0, a4), (0, a5), (0, a6), (0, a7), (3, 0), (3, 0), (3, 0)] [] v 115 := h
set_option maxRecDepth 100000 in
theorem sg_M_layDigits_0 {l : Launch} {G : zG} {d : Nat} {Q : Int → zH → Prop} {QX : Nat → zH → Prop} {K : Nat → List zV → List zV → zH → Nat → Prop} {a0 a1 a2 : Int} {v : zH} (h : zI (a2 - 1) ∧ K 10 [(2, a0), (3, 0), (3, 0), (0, a1), (0, 0), (0, 1), (0, a2 - 1), (3, 0)] [] v 115) : zx l G 1 (d + 1) h_M_layDigits k_M_layDigits 115 Q QX K 300 (k_M_layDigits.drop 0) [(2, a0), (0, a1), (0, a2), (3, 0), (3, 0), (3, 0), (3, 0), (3, 0)] [] v 115 := h
set_option maxRecDepth 100000 in
theorem sg_M_layDigits_10 {l : Launch} {G : zG} {d : Nat} {Q : Int → zH → Prop} {QX : Nat → zH → Prop} {K : Nat → List zV → List zV → zH → Nat → Prop} {a0 a3 a4 a5 a6 : Int} {v : zH} (h : ((a6 < 0 →
  Q a4 v) ∧
  (0 ≤ a6 →
  zCL a0 = 11 ∧ ¬ (v a0 30) = 0 ∧ zI (a3.tdiv (v a0 30)) ∧ zCL a0 = 11 ∧ zCL a0 = 11 ∧ ¬ (v a0 32) = 0 ∧ zI (a6.tdiv (v a0 32)) ∧ zI (10 * (a6.tdiv (v a0 32))) ∧ zCL a0 = 11 ∧ ¬ (v a0 32) = 0 ∧ zI (a6.tdiv (v a0 32)) ∧ zI ((10 * (a6.tdiv (v a0 32))) + (a6.tmod (v a0 32))) ∧ zCL (a0 + 19) = 20 ∧ (0 ≤ ((10 * (a6.tdiv (v a0 32))) + (a6.tmod (v a0 32))) ∧ ((10 * (a6.tdiv (v a0 32))) + (a6.tmod (v a0 32))) < zLN (a0 + 19)) ∧ zI ((a3.tmod (v a0 30)) + 1) ∧ zI (a5 * ((a3.tmod (v a0 30)) + 1)) ∧ zI (a4 + (a5 * ((a3.tmod (v a0 30)) + 1))) ∧ zI (a5 * 10) ∧ zCL a0 = 11 ∧ ¬ ((zupd v (a0 + 19) ((10 * (a6.tdiv (v a0 32))) + (a6.tmod (v a0 32))) (a3.tmod (v a0 30))) a0 30) = 0 ∧ zI (a3.tdiv ((zupd v (a0 + 19) ((10 * (a6.tdiv (v a0 32))) + (a6.tmod (v a0 32))) (a3.tmod (v a0 30))) a0 30)) ∧ zI (a6 + (-1)) ∧ K 10 [(2, a0), (3, 0), (3, 0), (0, a3.tdiv ((zupd v (a0 + 19) ((10 * (a6.tdiv (v a0 32))) + (a6.tmod (v a0 32))) (a3.tmod (v a0 30))) a0 30)), (0, a4 + (a5 * ((a3.tmod (v a0 30)) + 1))), (0, a5 * 10), (0, a6 + (-1)), (3, 0)] [] (zupd v (a0 + 19) ((10 * (a6.tdiv (v a0 32))) + (a6.tmod (v a0 32))) (a3.tmod (v a0 30))) 115))) : zx l G 1 (d + 1) h_M_layDigits k_M_layDigits 115 Q QX K 300 (k_M_layDigits.drop 10) [(2, a0), (3, 0), (3, 0), (0, a3), (0, a4), (0, a5), (0, a6), (3, 0)] [] v 115 := h
set_option maxRecDepth 100000 in
theorem sg_M_leastNight_0 {l : Launch} {G : zG} {d : Nat} {Q : Int → zH → Prop} {QX : Nat → zH → Prop} {K : Nat → List zV → List zV → zH → Nat → Prop} {a0 : Int} {v : zH} (h : zCL a0 = 11 ∧ zC l G 1 d h_M_layNight [(2, a0)] v 115 (fun _ v1 =>
  K 6 [(2, a0), (0, (-1)), (0, 0)] [] v1 115)) : zx l G 1 (d + 1) h_M_leastNight k_M_leastNight 115 Q QX K 300 (k_M_leastNight.drop 0) [(2, a0), (3, 0), (3, 0)] [] v 115 := h
set_option maxRecDepth 100000 in
theorem sg_M_leastNight_6 {l : Launch} {G : zG} {d : Nat} {Q : Int → zH → Prop} {QX : Nat → zH → Prop} {K : Nat → List zV → List zV → zH → Nat → Prop} {a0 a1 a2 : Int} {v : zH} (h : ((36 ≤ a2 →
  Q a1 v) ∧
  (a2 < 36 →
  zCL a0 = 11 ∧ zC l G 1 d h_M_isCell [(2, a0), (0, a2)] v 115 (fun r1 v1 =>
    ((r1 = 0 →
    zI (a2 + 1) ∧ K 6 [(2, a0), (0, a1), (0, a2 + 1)] [] v1 115) ∧
    (¬ r1 = 0 →
    ((a1 = ((-1)) →
      zCL a0 = 11 ∧ zCL (a0 + 26) = 20 ∧ (0 ≤ a2 ∧ a2 < zLN (a0 + 26)) ∧ zI (a2 + 1) ∧ K 6 [(2, a0), (0, v1 (a0 + 26) a2), (0, a2 + 1)] [] v1 115) ∧
      (¬ a1 = ((-1)) →
      zCL a0 = 11 ∧ zCL (a0 + 26) = 20 ∧ (0 ≤ a2 ∧ a2 < zLN (a0 + 26)) ∧ ((a1 ≤ (v1 (a0 + 26) a2) →
        zI (a2 + 1) ∧ K 6 [(2, a0), (0, a1), (0, a2 + 1)] [] v1 115) ∧
        ((v1 (a0 + 26) a2) < a1 →
        zCL a0 = 11 ∧ zCL (a0 + 26) = 20 ∧ (0 ≤ a2 ∧ a2 < zLN (a0 + 26)) ∧ zI (a2 + 1) ∧ K 6 [(2, a0), (0, v1 (a0 + 26) a2), (0, a2 + 1)] [] v1 115)))))))))) : zx l G 1 (d + 1) h_M_leastNight k_M_leastNight 115 Q QX K 300 (k_M_leastNight.drop 6) [(2, a0), (0, a1), (0, a2)] [] v 115 := h
set_option maxRecDepth 100000 in
theorem sg_M_laid_0 {l : Launch} {G : zG} {d : Nat} {Q : Int → zH → Prop} {QX : Nat → zH → Prop} {K : Nat → List zV → List zV → zH → Nat → Prop} {a0 a1 : Int} {v : zH} (h : zCL a0 = 11 ∧ zCL a0 = 11 ∧ zI ((v a0 31) * (v a0 32)) ∧ zCL a0 = 11 ∧ (((v a0 31) = 0 →
  Q ((-1000000)) v) ∧
  (¬ (v a0 31) = 0 →
  ((6 < ((v a0 31) * (v a0 32)) →
    Q ((-1000000)) v) ∧
    (((v a0 31) * (v a0 32)) ≤ 6 →
    zCL a0 = 11 ∧ ((3 < (v a0 30) →
      Q ((-1000000)) v) ∧
      ((v a0 30) ≤ 3 →
      zC l G 1 d h_M_in [(0, a1), (0, 0), (0, 1)] v 115 (fun r1 v1 =>
        ((¬ r1 = 0 →
        zCL a0 = 11 ∧ zCL a0 = 11 ∧ zC l G 1 d h_M_copy [(2, a0 + 19), (2, a0 + 28)] v1 115 (fun _ v2 =>
          zCL a0 = 11 ∧ zCL a0 = 11 ∧ zC l G 1 d h_M_copy [(2, a0 + 20), (2, a0 + 29)] v2 115 (fun _ v3 =>
          K 37 [(2, a0), (0, a1), (0, (v a0 31) * (v a0 32)), (0, 1), (0, 0), (3, 0), (3, 0), (3, 0), (3, 0)] [] v3 115))) ∧
        (r1 = 0 →
        Q ((-1000000)) v1)))))))))) : zx l G 1 (d + 1) h_M_laid k_M_laid 115 Q QX K 300 (k_M_laid.drop 0) [(2, a0), (0, a1), (3, 0), (3, 0), (3, 0), (3, 0), (3, 0), (3, 0), (3, 0)] [] v 115 := h
set_option maxRecDepth 100000 in
theorem sg_M_laid_37 {l : Launch} {G : zG} {d : Nat} {Q : Int → zH → Prop} {QX : Nat → zH → Prop} {K : Nat → List zV → List zV → zH → Nat → Prop} {a0 a1 a2 a3 a4 : Int} {v : zH} (h : ((a2 ≤ a4 →
  K 53 [(2, a0), (0, a1), (0, a2), (0, a3), (0, (-1)), (0, 0), (0, 0), (3, 0), (3, 0)] [] v 115) ∧
  (a4 < a2 →
  zCL a0 = 11 ∧ zI (a3 * (v a0 30)) ∧ zI (a4 + 1) ∧ K 37 [(2, a0), (0, a1), (0, a2), (0, a3 * (v a0 30)), (0, a4 + 1), (3, 0), (3, 0), (3, 0), (3, 0)] [] v 115))) : zx l G 1 (d + 1) h_M_laid k_M_laid 115 Q QX K 300 (k_M_laid.drop 37) [(2, a0), (0, a1), (0, a2), (0, a3), (0, a4), (3, 0), (3, 0), (3, 0), (3, 0)] [] v 115 := h
set_option maxRecDepth 100000 in
theorem sg_M_laid_53 {l : Launch} {G : zG} {d : Nat} {Q : Int → zH → Prop} {QX : Nat → zH → Prop} {K : Nat → List zV → List zV → zH → Nat → Prop} {a0 a1 a2 a3 a4 a5 a6 : Int} {v : zH} (h : ((a3 ≤ a6 →
  zCL a0 = 11 ∧ zCL a0 = 11 ∧ zC l G 1 d h_M_copy [(2, a0 + 28), (2, a0 + 19)] v 115 (fun _ v1 =>
    zCL a0 = 11 ∧ zCL a0 = 11 ∧ zC l G 1 d h_M_copy [(2, a0 + 29), (2, a0 + 20)] v1 115 (fun _ v2 =>
    ((¬ a1 = 0 →
    Q a5 v2) ∧
    (a1 = 0 →
    Q a4 v2))))) ∧
  (a6 < a3 →
  zCL a0 = 11 ∧ zC l G 1 d h_M_layDigits [(2, a0), (0, a6), (0, a2)] v 115 (fun r3 v3 =>
    K 63 [(2, a0), (0, a1), (0, a2), (0, a3), (0, a4), (0, a5), (0, a6), (0, r3), (0, 0)] [] v3 115)))) : zx l G 1 (d + 1) h_M_laid k_M_laid 115 Q QX K 300 (k_M_laid.drop 53) [(2, a0), (0, a1), (0, a2), (0, a3), (0, a4), (0, a5), (0, a6), (3, 0), (3, 0)] [] v 115 := h
set_option maxRecDepth 100000 in
theorem sg_M_laid_63 {l : Launch} {G : zG} {d : Nat} {Q : Int → zH → Prop} {QX : Nat → zH → Prop} {K : Nat → List zV → List zV → zH → Nat → Prop} {a0 a1 a2 a3 a4 a5 a6 a7 a8 : Int} {v : zH} (h : ((36 ≤ a8 →
  zCL a0 = 11 ∧ zC l G 1 d h_M_leastNight [(2, a0)] v 115 (fun r1 v1 =>
    ((a4 = ((-1)) →
    zI (a6 + 1) ∧ K 53 [(2, a0), (0, a1), (0, a2), (0, a3), (0, a7), (0, r1), (0, a6 + 1), (3, 0), (3, 0)] [] v1 115) ∧
    (¬ a4 = ((-1)) →
    ((r1 ≤ a5 →
      zI (a6 + 1) ∧ K 53 [(2, a0), (0, a1), (0, a2), (0, a3), (0, a4), (0, a5), (0, a6 + 1), (3, 0), (3, 0)] [] v1 115) ∧
      (a5 < r1 →
      zI (a6 + 1) ∧ K 53 [(2, a0), (0, a1), (0, a2), (0, a3), (0, a7), (0, r1), (0, a6 + 1), (3, 0), (3, 0)] [] v1 115)))))) ∧
  (a8 < 36 →
  zCL a0 = 11 ∧ zCL (a0 + 20) = 20 ∧ (0 ≤ a8 ∧ a8 < zLN (a0 + 20)) ∧ zI (a8 + 1) ∧ K 63 [(2, a0), (0, a1), (0, a2), (0, a3), (0, a4), (0, a5), (0, a6), (0, a7), (0, a8 + 1)] [] (zupd v (a0 + 20) a8 0) 115))) : zx l G 1 (d + 1) h_M_laid k_M_laid 115 Q QX K 300 (k_M_laid.drop 63) [(2, a0), (0, a1), (0, a2), (0, a3), (0, a4), (0, a5), (0, a6), (0, a7), (0, a8)] [] v 115 := h
set_option maxRecDepth 100000 in
theorem sg_M_touched_0 {l : Launch} {G : zG} {d : Nat} {Q : Int → zH → Prop} {QX : Nat → zH → Prop} {K : Nat → List zV → List zV → zH → Nat → Prop} {a0 a1 a2 a3 : Int} {v : zH} (h : zCL a0 = 11 ∧ zC l G 1 d h_M_isCell [(2, a0), (0, a1)] v 115 (fun r1 v1 =>
  ((r1 = 0 →
  Q ((-1)) v1) ∧
  (¬ r1 = 0 →
  zC l G 1 d h_M_in [(0, a2), (0, 0), (0, 48)] v1 115 (fun r2 v2 =>
    ((r2 = 0 →
    Q ((-1)) v2) ∧
    (¬ r2 = 0 →
    zC l G 1 d h_M_in [(0, a3), (0, 0), (0, 99)] v2 115 (fun r3 v3 =>
      ((r3 = 0 →
      Q ((-1)) v3) ∧
      (¬ r3 = 0 →
      zCL a0 = 11 ∧ ((¬ (v3 a0 56) = 20 →
        zCL a0 = 11 ∧ zCL a0 = 11 ∧ zCL (a0 + 30) = 20 ∧ (0 ≤ (v3 a0 56) ∧ (v3 a0 56) < zLN (a0 + 30)) ∧ zCL a0 = 11 ∧ zCL a0 = 11 ∧ zCL (a0 + 31) = 20 ∧ (0 ≤ ((zupd v3 (a0 + 30) (v3 a0 56) a1) a0 56) ∧ ((zupd v3 (a0 + 30) (v3 a0 56) a1) a0 56) < zLN (a0 + 31)) ∧ zCL a0 = 11 ∧ zCL a0 = 11 ∧ zCL (a0 + 32) = 20 ∧ (0 ≤ ((zupd (zupd v3 (a0 + 30) (v3 a0 56) a1) (a0 + 31) ((zupd v3 (a0 + 30) (v3 a0 56) a1) a0 56) a2) a0 56) ∧ ((zupd (zupd v3 (a0 + 30) (v3 a0 56) a1) (a0 + 31) ((zupd v3 (a0 + 30) (v3 a0 56) a1) a0 56) a2) a0 56) < zLN (a0 + 32)) ∧ zCL a0 = 11 ∧ zI (((zupd (zupd (zupd v3 (a0 + 30) (v3 a0 56) a1) (a0 + 31) ((zupd v3 (a0 + 30) (v3 a0 56) a1) a0 56) a2) (a0 + 32) ((zupd (zupd v3 (a0 + 30) (v3 a0 56) a1) (a0 + 31) ((zupd v3 (a0 + 30) (v3 a0 56) a1) a0 56) a2) a0 56) a3) a0 56) + 1) ∧ zCL a0 = 11 ∧ zCL a0 = 11 ∧ Q ((zupd (zupd (zupd (zupd v3 (a0 + 30) (v3 a0 56) a1) (a0 + 31) ((zupd v3 (a0 + 30) (v3 a0 56) a1) a0 56) a2) (a0 + 32) ((zupd (zupd v3 (a0 + 30) (v3 a0 56) a1) (a0 + 31) ((zupd v3 (a0 + 30) (v3 a0 56) a1) a0 56) a2) a0 56) a3) a0 56 (((zupd (zupd (zupd v3 (a0 + 30) (v3 a0 56) a1) (a0 + 31) ((zupd v3 (a0 + 30) (v3 a0 56) a1) a0 56) a2) (a0 + 32) ((zupd (zupd v3 (a0 + 30) (v3 a0 56) a1) (a0 + 31) ((zupd v3 (a0 + 30) (v3 a0 56) a1) a0 56) a2) a0 56) a3) a0 56) + 1)) a0 56) (zupd (zupd (zupd (zupd v3 (a0 + 30) (v3 a0 56) a1) (a0 + 31) ((zupd v3 (a0 + 30) (v3 a0 56) a1) a0 56) a2) (a0 + 32) ((zupd (zupd v3 (a0 + 30) (v3 a0 56) a1) (a0 + 31) ((zupd v3 (a0 + 30) (v3 a0 56) a1) a0 56) a2) a0 56) a3) a0 56 (((zupd (zupd (zupd v3 (a0 + 30) (v3 a0 56) a1) (a0 + 31) ((zupd v3 (a0 + 30) (v3 a0 56) a1) a0 56) a2) (a0 + 32) ((zupd (zupd v3 (a0 + 30) (v3 a0 56) a1) (a0 + 31) ((zupd v3 (a0 + 30) (v3 a0 56) a1) a0 56) a2) a0 56) a3) a0 56) + 1))) ∧
        ((v3 a0 56) = 20 →
        Q ((-1)) v3)))))))))))) : zx l G 1 (d + 1) h_M_touched k_M_touched 115 Q QX K 300 (k_M_touched.drop 0) [(2, a0), (0, a1), (0, a2), (0, a3)] [] v 115 := h
set_option maxRecDepth 100000 in
theorem sg_M_agrees_0 {l : Launch} {G : zG} {d : Nat} {Q : Int → zH → Prop} {QX : Nat → zH → Prop} {K : Nat → List zV → List zV → zH → Nat → Prop} {a0 : Int} {v : zH} (h : zCL a0 = 11 ∧ zC l G 1 d h_M_putAside [(2, a0)] v 115 (fun _ v1 =>
  K 6 [(2, a0), (0, 1), (0, 0), (3, 0)] [] v1 115)) : zx l G 1 (d + 1) h_M_agrees k_M_agrees 115 Q QX K 300 (k_M_agrees.drop 0) [(2, a0), (3, 0), (3, 0), (3, 0)] [] v 115 := h
set_option maxRecDepth 100000 in
theorem sg_M_agrees_6 {l : Launch} {G : zG} {d : Nat} {Q : Int → zH → Prop} {QX : Nat → zH → Prop} {K : Nat → List zV → List zV → zH → Nat → Prop} {a0 a1 a2 : Int} {v : zH} (h : ((48 < a2 →
  zCL a0 = 11 ∧ zC l G 1 d h_M_takeBack [(2, a0)] v 115 (fun _ v1 =>
    (a1 = 0 ∨ a1 = 1) ∧ Q a1 v1)) ∧
  (a2 ≤ 48 →
  ((a1 = 0 →
    zCL a0 = 11 ∧ zC l G 1 d h_M_takeBack [(2, a0)] v 115 (fun _ v2 =>
      (a1 = 0 ∨ a1 = 1) ∧ Q a1 v2)) ∧
    (¬ a1 = 0 →
    K 13 [(2, a0), (0, a1), (0, a2), (0, 0)] [] v 115))))) : zx l G 1 (d + 1) h_M_agrees k_M_agrees 115 Q QX K 300 (k_M_agrees.drop 6) [(2, a0), (0, a1), (0, a2), (3, 0)] [] v 115 := h
set_option maxRecDepth 100000 in
theorem sg_M_agrees_13 {l : Launch} {G : zG} {d : Nat} {Q : Int → zH → Prop} {QX : Nat → zH → Prop} {K : Nat → List zV → List zV → zH → Nat → Prop} {a0 a1 a2 a3 : Int} {v : zH} (h : zCL a0 = 11 ∧ (((v a0 56) ≤ a3 →
  zCL a0 = 11 ∧ zC l G 1 d h_M_pass [(2, a0)] v 115 (fun _ v1 =>
    zI (a2 + 1) ∧ K 6 [(2, a0), (0, a1), (0, a2 + 1), (3, 0)] [] v1 115)) ∧
  (a3 < (v a0 56) →
  ((a1 = 0 →
    zI (a3 + 1) ∧ K 13 [(2, a0), (0, 0), (0, a2), (0, a3 + 1)] [] v 115) ∧
    (¬ a1 = 0 →
    zCL a0 = 11 ∧ zCL (a0 + 31) = 20 ∧ (0 ≤ a3 ∧ a3 < zLN (a0 + 31)) ∧ ((¬ (v (a0 + 31) a3) = a2 →
      zI (a3 + 1) ∧ K 13 [(2, a0), (0, 1), (0, a2), (0, a3 + 1)] [] v 115) ∧
      ((v (a0 + 31) a3) = a2 →
      zCL a0 = 11 ∧ zCL a0 = 11 ∧ zCL (a0 + 30) = 20 ∧ (0 ≤ a3 ∧ a3 < zLN (a0 + 30)) ∧ zCL (a0 + 20) = 20 ∧ (0 ≤ (v (a0 + 30) a3) ∧ (v (a0 + 30) a3) < zLN (a0 + 20)) ∧ zCL a0 = 11 ∧ zCL (a0 + 32) = 20 ∧ (0 ≤ a3 ∧ a3 < zLN (a0 + 32)) ∧ ((¬ (v (a0 + 20) (v (a0 + 30) a3)) = (v (a0 + 32) a3) →
        zI (a3 + 1) ∧ K 13 [(2, a0), (0, 0), (0, a2), (0, a3 + 1)] [] v 115) ∧
        ((v (a0 + 20) (v (a0 + 30) a3)) = (v (a0 + 32) a3) →
        zI (a3 + 1) ∧ K 13 [(2, a0), (0, 1), (0, a2), (0, a3 + 1)] [] v 115))))))))) : zx l G 1 (d + 1) h_M_agrees k_M_agrees 115 Q QX K 300 (k_M_agrees.drop 13) [(2, a0), (0, a1), (0, a2), (0, a3)] [] v 115 := h
set_option maxRecDepth 100000 in
theorem sg_M_fitsOf_0 {l : Launch} {G : zG} {d : Nat} {Q : Int → zH → Prop} {QX : Nat → zH → Prop} {K : Nat → List zV → List zV → zH → Nat → Prop} {a0 a1 : Int} {v : zH} (h : K 4 [(2, a0), (0, a1), (0, 0), (0, 0), (3, 0), (3, 0)] [] v 115) : zx l G 1 (d + 1) h_M_fitsOf k_M_fitsOf 115 Q QX K 300 (k_M_fitsOf.drop 0) [(2, a0), (0, a1), (3, 0), (3, 0), (3, 0), (3, 0)] [] v 115 := h
set_option maxRecDepth 100000 in
theorem sg_M_fitsOf_4 {l : Launch} {G : zG} {d : Nat} {Q : Int → zH → Prop} {QX : Nat → zH → Prop} {K : Nat → List zV → List zV → zH → Nat → Prop} {a0 a1 a2 a3 : Int} {v : zH} (h : zCL a0 = 11 ∧ (((v a0 30) ≤ a3 →
  Q a2 v) ∧
  (a3 < (v a0 30) →
  zCL a0 = 11 ∧ zC l G 1 d h_M_lay [(2, a0), (0, a1), (0, a3)] v 115 (fun _ v1 =>
    zCL a0 = 11 ∧ zCL a0 = 11 ∧ zCL a0 = 11 ∧ zC l G 1 d h_M_agrees [(2, a0)] v1 115 (fun r2 v2 =>
    ((r2 = 0 →
    zCL a0 = 11 ∧ zC l G 1 d h_M_layBack [(2, a0), (0, a1), (0, v1 a0 49), (0, v1 a0 50)] v2 115 (fun _ v3 =>
      zI (a3 + 1) ∧ K 4 [(2, a0), (0, a1), (0, zor a2 0), (0, a3 + 1), (3, 0), (3, 0)] [] v3 115)) ∧
    (¬ r2 = 0 →
    zCL a0 = 11 ∧ zC l G 1 d h_M_layBack [(2, a0), (0, a1), (0, v1 a0 49), (0, v1 a0 50)] v2 115 (fun _ v4 =>
      zI (a3 + 1) ∧ K 4 [(2, a0), (0, a1), (0, zor a2 (zshl 1 a3)), (0, a3 + 1), (3, 0), (3, 0)] [] v4 115)))))))) : zx l G 1 (d + 1) h_M_fitsOf k_M_fitsOf 115 Q QX K 300 (k_M_fitsOf.drop 4) [(2, a0), (0, a1), (0, a2), (0, a3), (3, 0), (3, 0)] [] v 115 := h
set_option maxRecDepth 100000 in
theorem sg_M_fits_0 {l : Launch} {G : zG} {d : Nat} {Q : Int → zH → Prop} {QX : Nat → zH → Prop} {K : Nat → List zV → List zV → zH → Nat → Prop} {a0 a1 : Int} {v : zH} (h : zCL a0 = 11 ∧ zC l G 1 d h_M_isCell [(2, a0), (0, a1)] v 115 (fun r1 v1 =>
  ((r1 = 0 →
  Q ((-1)) v1) ∧
  (¬ r1 = 0 →
  zCL a0 = 11 ∧ zC l G 1 d h_M_fitsOf [(2, a0), (0, a1)] v1 115 (fun r2 v2 =>
    Q r2 v2))))) : zx l G 1 (d + 1) h_M_fits k_M_fits 115 Q QX K 300 (k_M_fits.drop 0) [(2, a0), (0, a1)] [] v 115 := h
set_option maxRecDepth 100000 in
theorem sg_M_tryOut_0 {l : Launch} {G : zG} {d : Nat} {Q : Int → zH → Prop} {QX : Nat → zH → Prop} {K : Nat → List zV → List zV → zH → Nat → Prop} {a0 a1 a2 a3 : Int} {v : zH} (h : zCL a0 = 11 ∧ zC l G 1 d h_M_lay [(2, a0), (0, a1), (0, a2)] v 115 (fun _ v1 =>
  zCL a0 = 11 ∧ zCL a0 = 11 ∧ zCL a0 = 11 ∧ zC l G 1 d h_M_putAside [(2, a0)] v1 115 (fun _ v2 =>
  K 14 [(2, a0), (0, a1), (0, a2), (0, a3), (0, v1 a0 49), (0, v1 a0 50), (0, 0), (3, 0)] [] v2 115))) : zx l G 1 (d + 1) h_M_tryOut k_M_tryOut 115 Q QX K 300 (k_M_tryOut.drop 0) [(2, a0), (0, a1), (0, a2), (0, a3), (3, 0), (3, 0), (3, 0), (3, 0)] [] v 115 := h
set_option maxRecDepth 100000 in
theorem sg_M_tryOut_14 {l : Launch} {G : zG} {d : Nat} {Q : Int → zH → Prop} {QX : Nat → zH → Prop} {K : Nat → List zV → List zV → zH → Nat → Prop} {a0 a1 a2 a3 a4 a5 a6 : Int} {v : zH} (h : ((a3 < a6 →
  zCL a0 = 11 ∧ zC l G 1 d h_M_takeBack [(2, a0)] v 115 (fun _ v1 =>
    zCL a0 = 11 ∧ zC l G 1 d h_M_layBack [(2, a0), (0, a1), (0, a4), (0, a5)] v1 115 (fun _ v2 =>
    Q 0 v2))) ∧
  (a6 ≤ a3 →
  K 19 [(2, a0), (0, a1), (0, a2), (0, a3), (0, a4), (0, a5), (0, a6), (0, 0)] [] v 115))) : zx l G 1 (d + 1) h_M_tryOut k_M_tryOut 115 Q QX K 300 (k_M_tryOut.drop 14) [(2, a0), (0, a1), (0, a2), (0, a3), (0, a4), (0, a5), (0, a6), (3, 0)] [] v 115 := h
set_option maxRecDepth 100000 in
theorem sg_M_tryOut_19 {l : Launch} {G : zG} {d : Nat} {Q : Int → zH → Prop} {QX : Nat → zH → Prop} {K : Nat → List zV → List zV → zH → Nat → Prop} {a0 a1 a2 a3 a4 a5 a6 a7 : Int} {v : zH} (h : ((36 ≤ a7 →
  zCL a0 = 11 ∧ zC l G 1 d h_M_pass [(2, a0)] v 115 (fun _ v1 =>
    zI (a6 + 1) ∧ K 14 [(2, a0), (0, a1), (0, a2), (0, a3), (0, a4), (0, a5), (0, a6 + 1), (3, 0)] [] v1 115)) ∧
  (a7 < 36 →
  zCL a0 = 11 ∧ zI (25 * a2) ∧ zI ((25 * a2) + a6) ∧ zI (36 * ((25 * a2) + a6)) ∧ zI ((36 * ((25 * a2) + a6)) + a7) ∧ zCL a0 = 11 ∧ zCL (a0 + 20) = 20 ∧ (0 ≤ a7 ∧ a7 < zLN (a0 + 20)) ∧ zCL (a0 + 33) = 20 ∧ (0 ≤ ((36 * ((25 * a2) + a6)) + a7) ∧ ((36 * ((25 * a2) + a6)) + a7) < zLN (a0 + 33)) ∧ zI (a7 + 1) ∧ K 19 [(2, a0), (0, a1), (0, a2), (0, a3), (0, a4), (0, a5), (0, a6), (0, a7 + 1)] [] (zupd v (a0 + 33) ((36 * ((25 * a2) + a6)) + a7) (v (a0 + 20) a7)) 115))) : zx l G 1 (d + 1) h_M_tryOut k_M_tryOut 115 Q QX K 300 (k_M_tryOut.drop 19) [(2, a0), (0, a1), (0, a2), (0, a3), (0, a4), (0, a5), (0, a6), (0, a7)] [] v 115 := h
set_option maxRecDepth 100000 in
theorem sg_M_unlike_0 {l : Launch} {G : zG} {d : Nat} {Q : Int → zH → Prop} {QX : Nat → zH → Prop} {K : Nat → List zV → List zV → zH → Nat → Prop} {a0 a1 a2 a3 : Int} {v : zH} (h : K 4 [(2, a0), (0, a1), (0, a2), (0, a3), (0, 0), (0, 0), (3, 0), (3, 0)] [] v 115) : zx l G 1 (d + 1) h_M_unlike k_M_unlike 115 Q QX K 300 (k_M_unlike.drop 0) [(2, a0), (0, a1), (0, a2), (0, a3), (3, 0), (3, 0), (3, 0), (3, 0)] [] v 115 := h
set_option maxRecDepth 100000 in
theorem sg_M_unlike_4 {l : Launch} {G : zG} {d : Nat} {Q : Int → zH → Prop} {QX : Nat → zH → Prop} {K : Nat → List zV → List zV → zH → Nat → Prop} {a0 a1 a2 a3 a4 a5 : Int} {v : zH} (h : zCL a0 = 11 ∧ (((v a0 30) ≤ a5 →
  Q a4 v) ∧
  (a5 < (v a0 30) →
  zC l G 1 d h_M_has [(0, a1), (0, a5)] v 115 (fun r1 v1 =>
    K 14 [(2, a0), (0, a1), (0, a2), (0, a3), (0, a4), (0, a5), (0, r1), (0, 0)] [] v1 115)))) : zx l G 1 (d + 1) h_M_unlike k_M_unlike 115 Q QX K 300 (k_M_unlike.drop 4) [(2, a0), (0, a1), (0, a2), (0, a3), (0, a4), (0, a5), (3, 0), (3, 0)] [] v 115 := h
set_option maxRecDepth 100000 in
theorem sg_M_unlike_14 {l : Launch} {G : zG} {d : Nat} {Q : Int → zH → Prop} {QX : Nat → zH → Prop} {K : Nat → List zV → List zV → zH → Nat → Prop} {a0 a1 a2 a3 a4 a5 a6 a7 : Int} {v : zH} (h : ((a5 ≤ a7 →
  ((a6 = 0 →
    zI (a4 + 0) ∧ zI (a5 + 1) ∧ K 4 [(2, a0), (0, a1), (0, a2), (0, a3), (0, a4 + 0), (0, a5 + 1), (3, 0), (3, 0)] [] v 115) ∧
    (¬ a6 = 0 →
    zI (a4 + 1) ∧ zI (a5 + 1) ∧ K 4 [(2, a0), (0, a1), (0, a2), (0, a3), (0, a4 + 1), (0, a5 + 1), (3, 0), (3, 0)] [] v 115))) ∧
  (a7 < a5 →
  ((a6 = 0 →
    zI (a7 + 1) ∧ K 14 [(2, a0), (0, a1), (0, a2), (0, a3), (0, a4), (0, a5), (0, 0), (0, a7 + 1)] [] v 115) ∧
    (¬ a6 = 0 →
    zC l G 1 d h_M_has [(0, a1), (0, a7)] v 115 (fun r1 v1 =>
      ((r1 = 0 →
      zI (a7 + 1) ∧ K 14 [(2, a0), (0, a1), (0, a2), (0, a3), (0, a4), (0, a5), (0, 1), (0, a7 + 1)] [] v1 115) ∧
      (¬ r1 = 0 →
      zCL a0 = 11 ∧ zI (25 * a7) ∧ zI ((25 * a7) + a2) ∧ zI (36 * ((25 * a7) + a2)) ∧ zI ((36 * ((25 * a7) + a2)) + a3) ∧ zCL (a0 + 33) = 20 ∧ (0 ≤ ((36 * ((25 * a7) + a2)) + a3) ∧ ((36 * ((25 * a7) + a2)) + a3) < zLN (a0 + 33)) ∧ zCL a0 = 11 ∧ zI (25 * a5) ∧ zI ((25 * a5) + a2) ∧ zI (36 * ((25 * a5) + a2)) ∧ zI ((36 * ((25 * a5) + a2)) + a3) ∧ zCL (a0 + 33) = 20 ∧ (0 ≤ ((36 * ((25 * a5) + a2)) + a3) ∧ ((36 * ((25 * a5) + a2)) + a3) < zLN (a0 + 33)) ∧ (((v1 (a0 + 33) ((36 * ((25 * a7) + a2)) + a3)) = (v1 (a0 + 33) ((36 * ((25 * a5) + a2)) + a3)) →
        zI (a7 + 1) ∧ K 14 [(2, a0), (0, a1), (0, a2), (0, a3), (0, a4), (0, a5), (0, 0), (0, a7 + 1)] [] v1 115) ∧
        (¬ (v1 (a0 + 33) ((36 * ((25 * a7) + a2)) + a3)) = (v1 (a0 + 33) ((36 * ((25 * a5) + a2)) + a3)) →
        zI (a7 + 1) ∧ K 14 [(2, a0), (0, a1), (0, a2), (0, a3), (0, a4), (0, a5), (0, 1), (0, a7 + 1)] [] v1 115)))))))))) : zx l G 1 (d + 1) h_M_unlike k_M_unlike 115 Q QX K 300 (k_M_unlike.drop 14) [(2, a0), (0, a1), (0, a2), (0, a3), (0, a4), (0, a5), (0, a6), (0, a7)] [] v 115 := h
set_option maxRecDepth 100000 in
theorem sg_M_touch_0 {l : Launch} {G : zG} {d : Nat} {Q : Int → zH → Prop} {QX : Nat → zH → Prop} {K : Nat → List zV → List zV → zH → Nat → Prop} {a0 a1 a2 a3 : Int} {v : zH} (h : zCL a0 = 11 ∧ zC l G 1 d h_M_isCell [(2, a0), (0, a1)] v 115 (fun r1 v1 =>
  ((r1 = 0 →
  Q ((-1)) v1) ∧
  (¬ r1 = 0 →
  zC l G 1 d h_M_in [(0, a2), (0, 0), (0, 24)] v1 115 (fun r2 v2 =>
    ((r2 = 0 →
    Q ((-1)) v2) ∧
    (¬ r2 = 0 →
    zC l G 1 d h_M_in [(0, a3), (0, 0), (0, 1)] v2 115 (fun r3 v3 =>
      ((¬ r3 = 0 →
      zCL a0 = 11 ∧ zC l G 1 d h_M_fitsOf [(2, a0), (0, a1)] v3 115 (fun r4 v4 =>
        ((¬ r4 = 0 →
        K 26 [(2, a0), (0, a1), (0, a2), (0, a3), (0, r4), (0, 0), (3, 0), (3, 0), (3, 0)] [] v4 115) ∧
        (r4 = 0 →
        Q ((-1)) v4)))) ∧
      (r3 = 0 →
      Q ((-1)) v3)))))))))) : zx l G 1 (d + 1) h_M_touch k_M_touch 115 Q QX K 300 (k_M_touch.drop 0) [(2, a0), (0, a1), (0, a2), (0, a3), (3, 0), (3, 0), (3, 0), (3, 0), (3, 0)] [] v 115 := h
set_option maxRecDepth 100000 in
theorem sg_M_touch_26 {l : Launch} {G : zG} {d : Nat} {Q : Int → zH → Prop} {QX : Nat → zH → Prop} {K : Nat → List zV → List zV → zH → Nat → Prop} {a0 a1 a2 a3 a4 a5 : Int} {v : zH} (h : zCL a0 = 11 ∧ (((v a0 30) ≤ a5 →
  K 43 [(2, a0), (3, 0), (0, a2), (0, a3), (0, a4), (0, (-1)), (0, 0), (0, 0), (3, 0)] [] v 115) ∧
  (a5 < (v a0 30) →
  zCL a0 = 11 ∧ zC l G 1 d h_M_tryOut [(2, a0), (0, a1), (0, a5), (0, a2)] v 115 (fun _ v1 =>
    zI (a5 + 1) ∧ K 26 [(2, a0), (0, a1), (0, a2), (0, a3), (0, a4), (0, a5 + 1), (3, 0), (3, 0), (3, 0)] [] v1 115)))) : zx l G 1 (d + 1) h_M_touch k_M_touch 115 Q QX K 300 (k_M_touch.drop 26) [(2, a0), (0, a1), (0, a2), (0, a3), (0, a4), (0, a5), (3, 0), (3, 0), (3, 0)] [] v 115 := h
set_option maxRecDepth 100000 in
theorem sg_M_touch_43 {l : Launch} {G : zG} {d : Nat} {Q : Int → zH → Prop} {QX : Nat → zH → Prop} {K : Nat → List zV → List zV → zH → Nat → Prop} {a0 a2 a3 a4 a5 a6 a7 : Int} {v : zH} (h : ((a2 < a7 →
  ((¬ a3 = 0 →
    Q a6 v) ∧
    (a3 = 0 →
    Q a5 v))) ∧
  (a7 ≤ a2 →
  K 48 [(2, a0), (3, 0), (0, a2), (0, a3), (0, a4), (0, a5), (0, a6), (0, a7), (0, 0)] [] v 115))) : zx l G 1 (d + 1) h_M_touch k_M_touch 115 Q QX K 300 (k_M_touch.drop 43) [(2, a0), (3, 0), (0, a2), (0, a3), (0, a4), (0, a5), (0, a6), (0, a7), (3, 0)] [] v 115 := h
set_option maxRecDepth 100000 in
theorem sg_M_touch_48 {l : Launch} {G : zG} {d : Nat} {Q : Int → zH → Prop} {QX : Nat → zH → Prop} {K : Nat → List zV → List zV → zH → Nat → Prop} {a0 a2 a3 a4 a5 a6 a7 a8 : Int} {v : zH} (h : ((36 ≤ a8 →
  zI (a7 + 1) ∧ K 43 [(2, a0), (3, 0), (0, a2), (0, a3), (0, a4), (0, a5), (0, a6), (0, a7 + 1), (3, 0)] [] v 115) ∧
  (a8 < 36 →
  zCL a0 = 11 ∧ zC l G 1 d h_M_isCell [(2, a0), (0, a8)] v 115 (fun r1 v1 =>
    ((r1 = 0 →
    zI (a8 + 1) ∧ K 48 [(2, a0), (3, 0), (0, a2), (0, a3), (0, a4), (0, a5), (0, a6), (0, a7), (0, a8 + 1)] [] v1 115) ∧
    (¬ r1 = 0 →
    zCL a0 = 11 ∧ zC l G 1 d h_M_unlike [(2, a0), (0, a4), (0, a7), (0, a8)] v1 115 (fun r2 v2 =>
      ((r2 ≤ a6 →
      zI (a8 + 1) ∧ K 48 [(2, a0), (3, 0), (0, a2), (0, a3), (0, a4), (0, a5), (0, a6), (0, a7), (0, a8 + 1)] [] v2 115) ∧
      (a6 < r2 →
      zI (100 * a7) ∧ zI ((100 * a7) + a8) ∧ zCL a0 = 11 ∧ zC l G 1 d h_M_unlike [(2, a0), (0, a4), (0, a7), (0, a8)] v2 115 (fun r3 v3 =>
        zI (a8 + 1) ∧ K 48 [(2, a0), (3, 0), (0, a2), (0, a3), (0, a4), (0, (100 * a7) + a8), (0, r3), (0, a7), (0, a8 + 1)] [] v3 115)))))))))) : zx l G 1 (d + 1) h_M_touch k_M_touch 115 Q QX K 300 (k_M_touch.drop 48) [(2, a0), (3, 0), (0, a2), (0, a3), (0, a4), (0, a5), (0, a6), (0, a7), (0, a8)] [] v 115 := h
set_option maxRecDepth 100000 in
theorem sg_M_without_0 {l : Launch} {G : zG} {d : Nat} {Q : Int → zH → Prop} {QX : Nat → zH → Prop} {K : Nat → List zV → List zV → zH → Nat → Prop} {a0 a1 a2 : Int} {v : zH} (h : zCL a0 = 11 ∧ zI ((v a0 33) - 1) ∧ zC l G 1 d h_M_in [(0, a1), (0, 0), (0, (v a0 33) - 1)] v 115 (fun r1 v1 =>
  ((r1 = 0 →
  Q ((-1000000)) v1) ∧
  (¬ r1 = 0 →
  zCL a0 = 11 ∧ zC l G 1 d h_M_areHours [(2, a0), (0, a2)] v1 115 (fun r2 v2 =>
    ((¬ r2 = 0 →
    zCL a0 = 11 ∧ zC l G 1 d h_M_airOf [(2, a0), (0, a2)] v2 115 (fun r3 v3 =>
      zCL a0 = 11 ∧ zCL a0 = 11 ∧ zC l G 1 d h_M_airOf [(2, a0), (0, a2)] (zupd v3 a0 39 a1) 115 (fun r4 v4 =>
      zCL a0 = 11 ∧ zI (r3 - r4) ∧ Q (r3 - r4) (zupd v4 a0 39 ((-1)))))) ∧
    (r2 = 0 →
    Q ((-1000000)) v2))))))) : zx l G 1 (d + 1) h_M_without k_M_without 115 Q QX K 300 (k_M_without.drop 0) [(2, a0), (0, a1), (0, a2), (3, 0), (3, 0)] [] v 115 := h
set_option maxRecDepth 100000 in
theorem sg_M_sumNow_0 {l : Launch} {G : zG} {d : Nat} {Q : Int → zH → Prop} {QX : Nat → zH → Prop} {K : Nat → List zV → List zV → zH → Nat → Prop} {a0 : Int} {v : zH} (h : K 4 [(2, a0), (0, 0), (0, 0)] [] v 115) : zx l G 1 (d + 1) h_M_sumNow k_M_sumNow 115 Q QX K 300 (k_M_sumNow.drop 0) [(2, a0), (3, 0), (3, 0)] [] v 115 := h
set_option maxRecDepth 100000 in
theorem sg_M_sumNow_4 {l : Launch} {G : zG} {d : Nat} {Q : Int → zH → Prop} {QX : Nat → zH → Prop} {K : Nat → List zV → List zV → zH → Nat → Prop} {a0 a1 a2 : Int} {v : zH} (h : ((36 ≤ a2 →
  Q a1 v) ∧
  (a2 < 36 →
  zCL a0 = 11 ∧ zC l G 1 d h_M_isCell [(2, a0), (0, a2)] v 115 (fun r1 v1 =>
    ((r1 = 0 →
    zI (a1 + 0) ∧ zI (a2 + 1) ∧ K 4 [(2, a0), (0, a1 + 0), (0, a2 + 1)] [] v1 115) ∧
    (¬ r1 = 0 →
    zCL a0 = 11 ∧ zCL (a0 + 20) = 20 ∧ (0 ≤ a2 ∧ a2 < zLN (a0 + 20)) ∧ zI (a1 + (v1 (a0 + 20) a2)) ∧ zI (a2 + 1) ∧ K 4 [(2, a0), (0, a1 + (v1 (a0 + 20) a2)), (0, a2 + 1)] [] v1 115)))))) : zx l G 1 (d + 1) h_M_sumNow k_M_sumNow 115 Q QX K 300 (k_M_sumNow.drop 4) [(2, a0), (0, a1), (0, a2)] [] v 115 := h
set_option maxRecDepth 100000 in
theorem sg_M_coldest_0 {l : Launch} {G : zG} {d : Nat} {Q : Int → zH → Prop} {QX : Nat → zH → Prop} {K : Nat → List zV → List zV → zH → Nat → Prop} {a0 a1 a2 : Int} {v : zH} (h : zCL a0 = 11 ∧ zC l G 1 d h_M_areHours [(2, a0), (0, a1)] v 115 (fun r1 v1 =>
  ((r1 = 0 →
  Q ((-1)) v1) ∧
  (¬ r1 = 0 →
  zC l G 1 d h_M_in [(0, a2), (0, 0), (0, 1)] v1 115 (fun r2 v2 =>
    ((¬ r2 = 0 →
    zCL a0 = 11 ∧ zC l G 1 d h_M_putAside [(2, a0)] v2 115 (fun _ v3 =>
      K 19 [(2, a0), (0, a1), (0, a2), (0, (-1)), (0, 0), (0, 1)] [] v3 115)) ∧
    (r2 = 0 →
    Q ((-1)) v2))))))) : zx l G 1 (d + 1) h_M_coldest k_M_coldest 115 Q QX K 300 (k_M_coldest.drop 0) [(2, a0), (0, a1), (0, a2), (3, 0), (3, 0), (3, 0)] [] v 115 := h
set_option maxRecDepth 100000 in
theorem sg_M_coldest_19 {l : Launch} {G : zG} {d : Nat} {Q : Int → zH → Prop} {QX : Nat → zH → Prop} {K : Nat → List zV → List zV → zH → Nat → Prop} {a0 a1 a2 a3 a4 a5 : Int} {v : zH} (h : ((a1 < a5 →
  zCL a0 = 11 ∧ zC l G 1 d h_M_takeBack [(2, a0)] v 115 (fun _ v1 =>
    ((¬ a2 = 0 →
    Q a4 v1) ∧
    (a2 = 0 →
    Q a3 v1)))) ∧
  (a5 ≤ a1 →
  zCL a0 = 11 ∧ zC l G 1 d h_M_pass [(2, a0)] v 115 (fun _ v2 =>
    ((a3 = ((-1)) →
    zCL a0 = 11 ∧ zC l G 1 d h_M_sumNow [(2, a0)] v2 115 (fun r3 v3 =>
      zI (a5 + 1) ∧ K 19 [(2, a0), (0, a1), (0, a2), (0, a5), (0, r3), (0, a5 + 1)] [] v3 115)) ∧
    (¬ a3 = ((-1)) →
    zCL a0 = 11 ∧ zC l G 1 d h_M_sumNow [(2, a0)] v2 115 (fun r4 v4 =>
      ((a4 ≤ r4 →
      zI (a5 + 1) ∧ K 19 [(2, a0), (0, a1), (0, a2), (0, a3), (0, a4), (0, a5 + 1)] [] v4 115) ∧
      (r4 < a4 →
      zCL a0 = 11 ∧ zC l G 1 d h_M_sumNow [(2, a0)] v4 115 (fun r5 v5 =>
        zI (a5 + 1) ∧ K 19 [(2, a0), (0, a1), (0, a2), (0, a5), (0, r5), (0, a5 + 1)] [] v5 115)))))))))) : zx l G 1 (d + 1) h_M_coldest k_M_coldest 115 Q QX K 300 (k_M_coldest.drop 19) [(2, a0), (0, a1), (0, a2), (0, a3), (0, a4), (0, a5)] [] v 115 := h
set_option maxRecDepth 100000 in
theorem sg_M_frost_0 {l : Launch} {G : zG} {d : Nat} {Q : Int → zH → Prop} {QX : Nat → zH → Prop} {K : Nat → List zV → List zV → zH → Nat → Prop} {a0 a1 : Int} {v : zH} (h : zCL a0 = 11 ∧ zC l G 1 d h_M_areHours [(2, a0), (0, a1)] v 115 (fun r1 v1 =>
  ((¬ r1 = 0 →
  K 8 [(2, a0), (0, a1), (0, 0), (3, 0)] [] v1 115) ∧
  (r1 = 0 →
  Q ((-1)) v1)))) : zx l G 1 (d + 1) h_M_frost k_M_frost 115 Q QX K 300 (k_M_frost.drop 0) [(2, a0), (0, a1), (3, 0), (3, 0)] [] v 115 := h
set_option maxRecDepth 100000 in
theorem sg_M_frost_8 {l : Launch} {G : zG} {d : Nat} {Q : Int → zH → Prop} {QX : Nat → zH → Prop} {K : Nat → List zV → List zV → zH → Nat → Prop} {a0 a1 a2 : Int} {v : zH} (h : ((36 ≤ a2 →
  zCL a0 = 11 ∧ zC l G 1 d h_M_putAside [(2, a0)] v 115 (fun _ v1 =>
    K 22 [(2, a0), (0, a1), (0, 0), (3, 0)] [] v1 115)) ∧
  (a2 < 36 →
  zCL a0 = 11 ∧ zCL (a0 + 27) = 21 ∧ (0 ≤ a2 ∧ a2 < zLN (a0 + 27)) ∧ ((0 : Int) = 0 ∨ (0 : Int) = 1) ∧ zI (a2 + 1) ∧ K 8 [(2, a0), (0, a1), (0, a2 + 1), (3, 0)] [] (zupd v (a0 + 27) a2 0) 115))) : zx l G 1 (d + 1) h_M_frost k_M_frost 115 Q QX K 300 (k_M_frost.drop 8) [(2, a0), (0, a1), (0, a2), (3, 0)] [] v 115 := h
set_option maxRecDepth 100000 in
theorem sg_M_frost_22 {l : Launch} {G : zG} {d : Nat} {Q : Int → zH → Prop} {QX : Nat → zH → Prop} {K : Nat → List zV → List zV → zH → Nat → Prop} {a0 a1 a2 : Int} {v : zH} (h : ((a1 ≤ a2 →
  zCL a0 = 11 ∧ zC l G 1 d h_M_takeBack [(2, a0)] v 115 (fun _ v1 =>
    K 63 [(2, a0), (3, 0), (0, 0), (0, 0)] [] v1 115)) ∧
  (a2 < a1 →
  zCL a0 = 11 ∧ zC l G 1 d h_M_pass [(2, a0)] v 115 (fun _ v2 =>
    K 29 [(2, a0), (0, a1), (0, a2), (0, 0)] [] v2 115)))) : zx l G 1 (d + 1) h_M_frost k_M_frost 115 Q QX K 300 (k_M_frost.drop 22) [(2, a0), (0, a1), (0, a2), (3, 0)] [] v 115 := h
set_option maxRecDepth 100000 in
theorem sg_M_frost_29 {l : Launch} {G : zG} {d : Nat} {Q : Int → zH → Prop} {QX : Nat → zH → Prop} {K : Nat → List zV → List zV → zH → Nat → Prop} {a0 a1 a2 a3 : Int} {v : zH} (h : ((36 ≤ a3 →
  zI (a2 + 1) ∧ K 22 [(2, a0), (0, a1), (0, a2 + 1), (3, 0)] [] v 115) ∧
  (a3 < 36 →
  zCL a0 = 11 ∧ zCL a0 = 11 ∧ zCL (a0 + 27) = 21 ∧ (0 ≤ a3 ∧ a3 < zLN (a0 + 27)) ∧ ((¬ (v (a0 + 27) a3) = 0 →
    zCL (a0 + 27) = 21 ∧ (0 ≤ a3 ∧ a3 < zLN (a0 + 27)) ∧ ((1 : Int) = 0 ∨ (1 : Int) = 1) ∧ zI (a3 + 1) ∧ K 29 [(2, a0), (0, a1), (0, a2), (0, a3 + 1)] [] (zupd v (a0 + 27) a3 1) 115) ∧
    ((v (a0 + 27) a3) = 0 →
    zCL a0 = 11 ∧ zC l G 1 d h_M_isCell [(2, a0), (0, a3)] v 115 (fun r1 v1 =>
      ((r1 = 0 →
      zCL (a0 + 27) = 21 ∧ (0 ≤ a3 ∧ a3 < zLN (a0 + 27)) ∧ ((0 : Int) = 0 ∨ (0 : Int) = 1) ∧ zI (a3 + 1) ∧ K 29 [(2, a0), (0, a1), (0, a2), (0, a3 + 1)] [] (zupd v1 (a0 + 27) a3 0) 115) ∧
      (¬ r1 = 0 →
      zCL a0 = 11 ∧ zCL (a0 + 20) = 20 ∧ (0 ≤ a3 ∧ a3 < zLN (a0 + 20)) ∧ ((¬ (v1 (a0 + 20) a3) = 0 →
        zCL (a0 + 27) = 21 ∧ (0 ≤ a3 ∧ a3 < zLN (a0 + 27)) ∧ ((0 : Int) = 0 ∨ (0 : Int) = 1) ∧ zI (a3 + 1) ∧ K 29 [(2, a0), (0, a1), (0, a2), (0, a3 + 1)] [] (zupd v1 (a0 + 27) a3 0) 115) ∧
        ((v1 (a0 + 20) a3) = 0 →
        zCL (a0 + 27) = 21 ∧ (0 ≤ a3 ∧ a3 < zLN (a0 + 27)) ∧ ((1 : Int) = 0 ∨ (1 : Int) = 1) ∧ zI (a3 + 1) ∧ K 29 [(2, a0), (0, a1), (0, a2), (0, a3 + 1)] [] (zupd v1 (a0 + 27) a3 1) 115)))))))))) : zx l G 1 (d + 1) h_M_frost k_M_frost 115 Q QX K 300 (k_M_frost.drop 29) [(2, a0), (0, a1), (0, a2), (0, a3)] [] v 115 := h
set_option maxRecDepth 100000 in
theorem sg_M_frost_63 {l : Launch} {G : zG} {d : Nat} {Q : Int → zH → Prop} {QX : Nat → zH → Prop} {K : Nat → List zV → List zV → zH → Nat → Prop} {a0 a2 a3 : Int} {v : zH} (h : ((36 ≤ a3 →
  Q a2 v) ∧
  (a3 < 36 →
  zCL a0 = 11 ∧ zCL (a0 + 27) = 21 ∧ (0 ≤ a3 ∧ a3 < zLN (a0 + 27)) ∧ (((v (a0 + 27) a3) = 0 →
    zI (a2 + 0) ∧ zI (a3 + 1) ∧ K 63 [(2, a0), (3, 0), (0, a2 + 0), (0, a3 + 1)] [] v 115) ∧
    (¬ (v (a0 + 27) a3) = 0 →
    zI (a2 + 1) ∧ zI (a3 + 1) ∧ K 63 [(2, a0), (3, 0), (0, a2 + 1), (0, a3 + 1)] [] v 115))))) : zx l G 1 (d + 1) h_M_frost k_M_frost 115 Q QX K 300 (k_M_frost.drop 63) [(2, a0), (3, 0), (0, a2), (0, a3)] [] v 115 := h
set_option maxRecDepth 100000 in
theorem sg_M_spread_0 {l : Launch} {G : zG} {d : Nat} {Q : Int → zH → Prop} {QX : Nat → zH → Prop} {K : Nat → List zV → List zV → zH → Nat → Prop} {a0 a1 : Int} {v : zH} (h : zCL a0 = 11 ∧ (((v a0 31) = 0 →
  Q ((-1)) v) ∧
  (¬ (v a0 31) = 0 →
  zC l G 1 d h_M_in [(0, a1), (0, 0), (0, 72)] v 115 (fun r1 v1 =>
    ((¬ r1 = 0 →
    zCL a0 = 11 ∧ zC l G 1 d h_M_putAside [(2, a0)] v1 115 (fun _ v2 =>
      zCL a0 = 11 ∧ zC l G 1 d h_M_passAll [(2, a0), (0, a1)] v2 115 (fun _ v3 =>
      K 21 [(2, a0), (3, 0), (0, 99), (0, 0), (0, 0)] [] v3 115))) ∧
    (r1 = 0 →
    Q ((-1)) v1)))))) : zx l G 1 (d + 1) h_M_spread k_M_spread 115 Q QX K 300 (k_M_spread.drop 0) [(2, a0), (0, a1), (3, 0), (3, 0), (3, 0)] [] v 115 := h
set_option maxRecDepth 100000 in
theorem sg_M_spread_21 {l : Launch} {G : zG} {d : Nat} {Q : Int → zH → Prop} {QX : Nat → zH → Prop} {K : Nat → List zV → List zV → zH → Nat → Prop} {a0 a2 a3 a4 : Int} {v : zH} (h : ((36 ≤ a4 →
  zCL a0 = 11 ∧ zC l G 1 d h_M_takeBack [(2, a0)] v 115 (fun _ v1 =>
    zI (a3 - a2) ∧ Q (a3 - a2) v1)) ∧
  (a4 < 36 →
  zCL a0 = 11 ∧ zC l G 1 d h_M_isCell [(2, a0), (0, a4)] v 115 (fun r2 v2 =>
    ((r2 = 0 →
    zCL a0 = 11 ∧ zC l G 1 d h_M_isCell [(2, a0), (0, a4)] v2 115 (fun r3 v3 =>
      ((r3 = 0 →
      zI (a4 + 1) ∧ K 21 [(2, a0), (3, 0), (0, a2), (0, a3), (0, a4 + 1)] [] v3 115) ∧
      (¬ r3 = 0 →
      zCL a0 = 11 ∧ zCL (a0 + 20) = 20 ∧ (0 ≤ a4 ∧ a4 < zLN (a0 + 20)) ∧ zI (a4 + 1) ∧ K 21 [(2, a0), (3, 0), (0, a2), (0, max a3 (v3 (a0 + 20) a4)), (0, a4 + 1)] [] v3 115)))) ∧
    (¬ r2 = 0 →
    zCL a0 = 11 ∧ zCL (a0 + 20) = 20 ∧ (0 ≤ a4 ∧ a4 < zLN (a0 + 20)) ∧ zCL a0 = 11 ∧ zC l G 1 d h_M_isCell [(2, a0), (0, a4)] v2 115 (fun r4 v4 =>
      ((r4 = 0 →
      zI (a4 + 1) ∧ K 21 [(2, a0), (3, 0), (0, min a2 (v2 (a0 + 20) a4)), (0, a3), (0, a4 + 1)] [] v4 115) ∧
      (¬ r4 = 0 →
      zCL a0 = 11 ∧ zCL (a0 + 20) = 20 ∧ (0 ≤ a4 ∧ a4 < zLN (a0 + 20)) ∧ zI (a4 + 1) ∧ K 21 [(2, a0), (3, 0), (0, min a2 (v2 (a0 + 20) a4)), (0, max a3 (v4 (a0 + 20) a4)), (0, a4 + 1)] [] v4 115))))))))) : zx l G 1 (d + 1) h_M_spread k_M_spread 115 Q QX K 300 (k_M_spread.drop 21) [(2, a0), (3, 0), (0, a2), (0, a3), (0, a4)] [] v 115 := h
set_option maxRecDepth 100000 in
theorem sg_M_comfortAt_0 {l : Launch} {G : zG} {d : Nat} {Q : Int → zH → Prop} {QX : Nat → zH → Prop} {K : Nat → List zV → List zV → zH → Nat → Prop} {a0 a1 : Int} {v : zH} (h : zCL a0 = 11 ∧ zC l G 1 d h_M_layNight [(2, a0)] v 115 (fun _ v1 =>
  zCL a0 = 11 ∧ zCL (a0 + 26) = 20 ∧ (0 ≤ a1 ∧ a1 < zLN (a0 + 26)) ∧ Q (v1 (a0 + 26) a1) v1)) : zx l G 1 (d + 1) h_M_comfortAt k_M_comfortAt 115 Q QX K 300 (k_M_comfortAt.drop 0) [(2, a0), (0, a1)] [] v 115 := h
set_option maxRecDepth 100000 in
theorem sg_M_timing_0 {l : Launch} {G : zG} {d : Nat} {Q : Int → zH → Prop} {QX : Nat → zH → Prop} {K : Nat → List zV → List zV → zH → Nat → Prop} {a0 a1 a2 a3 : Int} {v : zH} (h : zCL a0 = 11 ∧ zI ((v a0 33) - 1) ∧ zC l G 1 d h_M_in [(0, a1), (0, 0), (0, (v a0 33) - 1)] v 115 (fun r1 v1 =>
  ((r1 = 0 →
  Q ((-1)) v1) ∧
  (¬ r1 = 0 →
  zCL a0 = 11 ∧ zC l G 1 d h_M_isCell [(2, a0), (0, a2)] v1 115 (fun r2 v2 =>
    ((r2 = 0 →
    Q ((-1)) v2) ∧
    (¬ r2 = 0 →
    zC l G 1 d h_M_in [(0, a3), (0, 0), (0, 1)] v2 115 (fun r3 v3 =>
      ((¬ r3 = 0 →
      zCL a0 = 11 ∧ zI (5 * a1) ∧ zI ((5 * a1) + 2) ∧ zCL (a0 + 17) = 20 ∧ (0 ≤ ((5 * a1) + 2) ∧ ((5 * a1) + 2) < zLN (a0 + 17)) ∧ zCL a0 = 11 ∧ zI (5 * a1) ∧ zI ((5 * a1) + 3) ∧ zCL (a0 + 17) = 20 ∧ (0 ≤ ((5 * a1) + 3) ∧ ((5 * a1) + 3) < zLN (a0 + 17)) ∧ zI ((v3 (a0 + 17) ((5 * a1) + 3)) - (v3 (a0 + 17) ((5 * a1) + 2))) ∧ zC l G 1 d h_Math_floorMod [(0, (v3 (a0 + 17) ((5 * a1) + 3)) - (v3 (a0 + 17) ((5 * a1) + 2))), (0, 24)] v3 115 (fun r4 v4 =>
        K 49 [(2, a0), (0, a1), (0, a2), (0, a3), (0, v3 (a0 + 17) ((5 * a1) + 2)), (0, v3 (a0 + 17) ((5 * a1) + 3)), (0, r4), (0, 0), (0, (-1)), (0, 0), (3, 0)] [] v4 115)) ∧
      (r3 = 0 →
      Q ((-1)) v3)))))))))) : zx l G 1 (d + 1) h_M_timing k_M_timing 115 Q QX K 300 (k_M_timing.drop 0) [(2, a0), (0, a1), (0, a2), (0, a3), (3, 0), (3, 0), (3, 0), (3, 0), (3, 0), (3, 0), (3, 0)] [] v 115 := h
set_option maxRecDepth 100000 in
theorem sg_M_timing_49 {l : Launch} {G : zG} {d : Nat} {Q : Int → zH → Prop} {QX : Nat → zH → Prop} {K : Nat → List zV → List zV → zH → Nat → Prop} {a0 a1 a2 a3 a4 a5 a6 a7 a8 a9 : Int} {v : zH} (h : ((24 ≤ a9 →
  zCL a0 = 11 ∧ zI (5 * a1) ∧ zI ((5 * a1) + 2) ∧ zCL (a0 + 17) = 20 ∧ (0 ≤ ((5 * a1) + 2) ∧ ((5 * a1) + 2) < zLN (a0 + 17)) ∧ zCL a0 = 11 ∧ zI (5 * a1) ∧ zI ((5 * a1) + 3) ∧ zCL (a0 + 17) = 20 ∧ (0 ≤ ((5 * a1) + 3) ∧ ((5 * a1) + 3) < zLN (a0 + 17)) ∧ ((¬ a3 = 0 →
    Q a8 (zupd (zupd v (a0 + 17) ((5 * a1) + 2) a4) (a0 + 17) ((5 * a1) + 3) a5)) ∧
    (a3 = 0 →
    Q a7 (zupd (zupd v (a0 + 17) ((5 * a1) + 2) a4) (a0 + 17) ((5 * a1) + 3) a5)))) ∧
  (a9 < 24 →
  zCL a0 = 11 ∧ zI (5 * a1) ∧ zI ((5 * a1) + 2) ∧ zCL (a0 + 17) = 20 ∧ (0 ≤ ((5 * a1) + 2) ∧ ((5 * a1) + 2) < zLN (a0 + 17)) ∧ zCL a0 = 11 ∧ zI (5 * a1) ∧ zI ((5 * a1) + 3) ∧ zI (a9 + a6) ∧ zCL (a0 + 17) = 20 ∧ (0 ≤ ((5 * a1) + 3) ∧ ((5 * a1) + 3) < zLN (a0 + 17)) ∧ zCL a0 = 11 ∧ zC l G 1 d h_M_comfortAt [(2, a0), (0, a2)] (zupd (zupd v (a0 + 17) ((5 * a1) + 2) a9) (a0 + 17) ((5 * a1) + 3) ((a9 + a6).tmod 24)) 115 (fun r1 v1 =>
    ((r1 ≤ a8 →
    zI (a9 + 1) ∧ K 49 [(2, a0), (0, a1), (0, a2), (0, a3), (0, a4), (0, a5), (0, a6), (0, a7), (0, a8), (0, a9 + 1), (3, 0)] [] v1 115) ∧
    (a8 < r1 →
    zI (a9 + 1) ∧ K 49 [(2, a0), (0, a1), (0, a2), (0, a3), (0, a4), (0, a5), (0, a6), (0, a9), (0, r1), (0, a9 + 1), (3, 0)] [] v1 115)))))) : zx l G 1 (d + 1) h_M_timing k_M_timing 115 Q QX K 300 (k_M_timing.drop 49) [(2, a0), (0, a1), (0, a2), (0, a3), (0, a4), (0, a5), (0, a6), (0, a7), (0, a8), (0, a9), (3, 0)] [] v 115 := h
set_option maxRecDepth 100000 in
theorem sg_M_flow_0 {l : Launch} {G : zG} {d : Nat} {Q : Int → zH → Prop} {QX : Nat → zH → Prop} {K : Nat → List zV → List zV → zH → Nat → Prop} {a0 a1 a2 a3 : Int} {v : zH} (h : zCL a0 = 11 ∧ zC l G 1 d h_M_isCell [(2, a0), (0, a1)] v 115 (fun r1 v1 =>
  ((r1 = 0 →
  Q ((-1)) v1) ∧
  (¬ r1 = 0 →
  zCL a0 = 11 ∧ zC l G 1 d h_M_isCell [(2, a0), (0, a2)] v1 115 (fun r2 v2 =>
    ((r2 = 0 →
    Q ((-1)) v2) ∧
    (¬ r2 = 0 →
    zC l G 1 d h_M_areBeside [(0, a1), (0, a2)] v2 115 (fun r3 v3 =>
      ((r3 = 0 →
      Q ((-1)) v3) ∧
      (¬ r3 = 0 →
      zCL a0 = 11 ∧ zC l G 1 d h_M_areHours [(2, a0), (0, a3)] v3 115 (fun r4 v4 =>
        ((¬ r4 = 0 →
        zCL a0 = 11 ∧ zC l G 1 d h_M_putAside [(2, a0)] v4 115 (fun _ v5 =>
          K 24 [(2, a0), (0, a1), (3, 0), (0, a3), (0, 0), (0, 0)] [] v5 115)) ∧
        (r4 = 0 →
        Q ((-1)) v4))))))))))))) : zx l G 1 (d + 1) h_M_flow k_M_flow 115 Q QX K 300 (k_M_flow.drop 0) [(2, a0), (0, a1), (0, a2), (0, a3), (3, 0), (3, 0)] [] v 115 := h
set_option maxRecDepth 100000 in
theorem sg_M_flow_24 {l : Launch} {G : zG} {d : Nat} {Q : Int → zH → Prop} {QX : Nat → zH → Prop} {K : Nat → List zV → List zV → zH → Nat → Prop} {a0 a1 a3 a4 a5 : Int} {v : zH} (h : ((a3 ≤ a5 →
  zCL a0 = 11 ∧ zC l G 1 d h_M_takeBack [(2, a0)] v 115 (fun _ v1 =>
    Q a4 v1)) ∧
  (a5 < a3 →
  zCL a0 = 11 ∧ zC l G 1 d h_M_pass [(2, a0)] v 115 (fun _ v2 =>
    zCL a0 = 11 ∧ zCL (a0 + 21) = 20 ∧ (0 ≤ a1 ∧ a1 < zLN (a0 + 21)) ∧ zI (a4 + (v2 (a0 + 21) a1)) ∧ zI (a5 + 1) ∧ K 24 [(2, a0), (0, a1), (3, 0), (0, a3), (0, a4 + (v2 (a0 + 21) a1)), (0, a5 + 1)] [] v2 115)))) : zx l G 1 (d + 1) h_M_flow k_M_flow 115 Q QX K 300 (k_M_flow.drop 24) [(2, a0), (0, a1), (3, 0), (0, a3), (0, a4), (0, a5)] [] v 115 := h
set_option maxRecDepth 100000 in
theorem sg_M_giver_0 {l : Launch} {G : zG} {d : Nat} {Q : Int → zH → Prop} {QX : Nat → zH → Prop} {K : Nat → List zV → List zV → zH → Nat → Prop} {a0 a1 a2 : Int} {v : zH} (h : zCL a0 = 11 ∧ zC l G 1 d h_M_areHours [(2, a0), (0, a1)] v 115 (fun r1 v1 =>
  ((r1 = 0 →
  Q ((-1)) v1) ∧
  (¬ r1 = 0 →
  zC l G 1 d h_M_in [(0, a2), (0, 0), (0, 1)] v1 115 (fun r2 v2 =>
    ((¬ r2 = 0 →
    zCL a0 = 11 ∧ zC l G 1 d h_M_putAside [(2, a0)] v2 115 (fun _ v3 =>
      K 15 [(2, a0), (0, a1), (0, a2), (0, 0), (3, 0)] [] v3 115)) ∧
    (r2 = 0 →
    Q ((-1)) v2))))))) : zx l G 1 (d + 1) h_M_giver k_M_giver 115 Q QX K 300 (k_M_giver.drop 0) [(2, a0), (0, a1), (0, a2), (3, 0), (3, 0)] [] v 115 := h
set_option maxRecDepth 100000 in
theorem sg_M_giver_15 {l : Launch} {G : zG} {d : Nat} {Q : Int → zH → Prop} {QX : Nat → zH → Prop} {K : Nat → List zV → List zV → zH → Nat → Prop} {a0 a1 a2 a3 : Int} {v : zH} (h : ((a1 ≤ a3 →
  zCL a0 = 11 ∧ zC l G 1 d h_M_takeBack [(2, a0)] v 115 (fun _ v1 =>
    K 58 [(2, a0), (3, 0), (0, a2), (0, 0), (0, 1)] [] v1 115)) ∧
  (a3 < a1 →
  zCL a0 = 11 ∧ zC l G 1 d h_M_pass [(2, a0)] v 115 (fun _ v2 =>
    K 22 [(2, a0), (0, a1), (0, a2), (0, a3), (0, 0)] [] v2 115)))) : zx l G 1 (d + 1) h_M_giver k_M_giver 115 Q QX K 300 (k_M_giver.drop 15) [(2, a0), (0, a1), (0, a2), (0, a3), (3, 0)] [] v 115 := h
set_option maxRecDepth 100000 in
theorem sg_M_giver_22 {l : Launch} {G : zG} {d : Nat} {Q : Int → zH → Prop} {QX : Nat → zH → Prop} {K : Nat → List zV → List zV → zH → Nat → Prop} {a0 a1 a2 a3 a4 : Int} {v : zH} (h : ((36 ≤ a4 →
  zI (a3 + 1) ∧ K 15 [(2, a0), (0, a1), (0, a2), (0, a3 + 1), (3, 0)] [] v 115) ∧
  (a4 < 36 →
  zCL a0 = 11 ∧ zCL a0 = 11 ∧ zC l G 1 d h_M_isCell [(2, a0), (0, a4)] v 115 (fun r1 v1 =>
    ((r1 = 0 →
    zCL (a0 + 34) = 20 ∧ (0 ≤ a4 ∧ a4 < zLN (a0 + 34)) ∧ zI (a4 + 1) ∧ K 22 [(2, a0), (0, a1), (0, a2), (0, a3), (0, a4 + 1)] [] (zupd v1 (a0 + 34) a4 ((-1))) 115) ∧
    (¬ r1 = 0 →
    ((¬ a3 = 0 →
      zCL a0 = 11 ∧ zCL (a0 + 34) = 20 ∧ (0 ≤ a4 ∧ a4 < zLN (a0 + 34)) ∧ zCL a0 = 11 ∧ zCL (a0 + 23) = 20 ∧ (0 ≤ a4 ∧ a4 < zLN (a0 + 23)) ∧ zI ((v1 (a0 + 34) a4) + (v1 (a0 + 23) a4)) ∧ zCL (a0 + 34) = 20 ∧ (0 ≤ a4 ∧ a4 < zLN (a0 + 34)) ∧ zI (a4 + 1) ∧ K 22 [(2, a0), (0, a1), (0, a2), (0, a3), (0, a4 + 1)] [] (zupd v1 (a0 + 34) a4 ((v1 (a0 + 34) a4) + (v1 (a0 + 23) a4))) 115) ∧
      (a3 = 0 →
      zCL a0 = 11 ∧ zCL (a0 + 23) = 20 ∧ (0 ≤ a4 ∧ a4 < zLN (a0 + 23)) ∧ zI (0 + (v1 (a0 + 23) a4)) ∧ zCL (a0 + 34) = 20 ∧ (0 ≤ a4 ∧ a4 < zLN (a0 + 34)) ∧ zI (a4 + 1) ∧ K 22 [(2, a0), (0, a1), (0, a2), (0, a3), (0, a4 + 1)] [] (zupd v1 (a0 + 34) a4 (0 + (v1 (a0 + 23) a4))) 115)))))))) : zx l G 1 (d + 1) h_M_giver k_M_giver 115 Q QX K 300 (k_M_giver.drop 22) [(2, a0), (0, a1), (0, a2), (0, a3), (0, a4)] [] v 115 := h
set_option maxRecDepth 100000 in
theorem sg_M_giver_58 {l : Launch} {G : zG} {d : Nat} {Q : Int → zH → Prop} {QX : Nat → zH → Prop} {K : Nat → List zV → List zV → zH → Nat → Prop} {a0 a2 a3 a4 : Int} {v : zH} (h : ((36 ≤ a4 →
  ((¬ a2 = 0 →
    zCL a0 = 11 ∧ zCL (a0 + 34) = 20 ∧ (0 ≤ a3 ∧ a3 < zLN (a0 + 34)) ∧ Q (v (a0 + 34) a3) v) ∧
    (a2 = 0 →
    Q a3 v))) ∧
  (a4 < 36 →
  zCL a0 = 11 ∧ zCL (a0 + 34) = 20 ∧ (0 ≤ a4 ∧ a4 < zLN (a0 + 34)) ∧ zCL a0 = 11 ∧ zCL (a0 + 34) = 20 ∧ (0 ≤ a3 ∧ a3 < zLN (a0 + 34)) ∧ (((v (a0 + 34) a4) ≤ (v (a0 + 34) a3) →
    zI (a4 + 1) ∧ K 58 [(2, a0), (3, 0), (0, a2), (0, a3), (0, a4 + 1)] [] v 115) ∧
    ((v (a0 + 34) a3) < (v (a0 + 34) a4) →
    zI (a4 + 1) ∧ K 58 [(2, a0), (3, 0), (0, a2), (0, a4), (0, a4 + 1)] [] v 115))))) : zx l G 1 (d + 1) h_M_giver k_M_giver 115 Q QX K 300 (k_M_giver.drop 58) [(2, a0), (3, 0), (0, a2), (0, a3), (0, a4)] [] v 115 := h
set_option maxRecDepth 100000 in
theorem sg_M_thaw_0 {l : Launch} {G : zG} {d : Nat} {Q : Int → zH → Prop} {QX : Nat → zH → Prop} {K : Nat → List zV → List zV → zH → Nat → Prop} {a0 a1 a2 : Int} {v : zH} (h : zCL a0 = 11 ∧ zC l G 1 d h_M_isCell [(2, a0), (0, a1)] v 115 (fun r1 v1 =>
  ((r1 = 0 →
  Q ((-1)) v1) ∧
  (¬ r1 = 0 →
  zC l G 1 d h_M_in [(0, a2), (0, 0), (0, 99)] v1 115 (fun r2 v2 =>
    ((¬ r2 = 0 →
    zCL a0 = 11 ∧ zC l G 1 d h_M_putAside [(2, a0)] v2 115 (fun _ v3 =>
      K 17 [(2, a0), (0, a1), (0, a2), (0, (-1)), (0, 0)] [] v3 115)) ∧
    (r2 = 0 →
    Q ((-1)) v2))))))) : zx l G 1 (d + 1) h_M_thaw k_M_thaw 115 Q QX K 300 (k_M_thaw.drop 0) [(2, a0), (0, a1), (0, a2), (3, 0), (3, 0)] [] v 115 := h
set_option maxRecDepth 100000 in
theorem sg_M_thaw_17 {l : Launch} {G : zG} {d : Nat} {Q : Int → zH → Prop} {QX : Nat → zH → Prop} {K : Nat → List zV → List zV → zH → Nat → Prop} {a0 a1 a2 a3 a4 : Int} {v : zH} (h : ((72 < a4 →
  zCL a0 = 11 ∧ zC l G 1 d h_M_takeBack [(2, a0)] v 115 (fun _ v1 =>
    Q a3 v1)) ∧
  (a4 ≤ 72 →
  ((¬ a3 = ((-1)) →
    zCL a0 = 11 ∧ zC l G 1 d h_M_takeBack [(2, a0)] v 115 (fun _ v2 =>
      Q a3 v2)) ∧
    (a3 = ((-1)) →
    zCL a0 = 11 ∧ zCL (a0 + 20) = 20 ∧ (0 ≤ a1 ∧ a1 < zLN (a0 + 20)) ∧ (((v (a0 + 20) a1) < a2 →
      zCL a0 = 11 ∧ zC l G 1 d h_M_pass [(2, a0)] v 115 (fun _ v3 =>
        zI (a4 + 1) ∧ K 17 [(2, a0), (0, a1), (0, a2), (0, (-1)), (0, a4 + 1)] [] v3 115)) ∧
      (a2 ≤ (v (a0 + 20) a1) →
      zCL a0 = 11 ∧ zC l G 1 d h_M_pass [(2, a0)] v 115 (fun _ v4 =>
        zI (a4 + 1) ∧ K 17 [(2, a0), (0, a1), (0, a2), (0, a4), (0, a4 + 1)] [] v4 115)))))))) : zx l G 1 (d + 1) h_M_thaw k_M_thaw 115 Q QX K 300 (k_M_thaw.drop 17) [(2, a0), (0, a1), (0, a2), (0, a3), (0, a4)] [] v 115 := h
set_option maxRecDepth 100000 in
theorem sg_M_areLike_0 {l : Launch} {G : zG} {d : Nat} {Q : Int → zH → Prop} {QX : Nat → zH → Prop} {K : Nat → List zV → List zV → zH → Nat → Prop} {a0 a1 a2 : Int} {v : zH} (h : K 2 [(2, a0), (0, a1), (0, a2), (0, 0)] [] v 115) : zx l G 1 (d + 1) h_M_areLike k_M_areLike 115 Q QX K 300 (k_M_areLike.drop 0) [(2, a0), (0, a1), (0, a2), (3, 0)] [] v 115 := h
set_option maxRecDepth 100000 in
theorem sg_M_areLike_2 {l : Launch} {G : zG} {d : Nat} {Q : Int → zH → Prop} {QX : Nat → zH → Prop} {K : Nat → List zV → List zV → zH → Nat → Prop} {a0 a1 a2 a3 : Int} {v : zH} (h : ((36 ≤ a3 →
  ((1 : Int) = 0 ∨ (1 : Int) = 1) ∧ Q 1 v) ∧
  (a3 < 36 →
  zCL a0 = 11 ∧ zC l G 1 d h_M_isCell [(2, a0), (0, a3)] v 115 (fun r1 v1 =>
    ((r1 = 0 →
    zI (a3 + 1) ∧ K 2 [(2, a0), (0, a1), (0, a2), (0, a3 + 1)] [] v1 115) ∧
    (¬ r1 = 0 →
    zCL a0 = 11 ∧ zI (36 * a1) ∧ zI ((36 * a1) + a3) ∧ zCL (a0 + 35) = 20 ∧ (0 ≤ ((36 * a1) + a3) ∧ ((36 * a1) + a3) < zLN (a0 + 35)) ∧ zCL a0 = 11 ∧ zI (36 * a2) ∧ zI ((36 * a2) + a3) ∧ zCL (a0 + 35) = 20 ∧ (0 ≤ ((36 * a2) + a3) ∧ ((36 * a2) + a3) < zLN (a0 + 35)) ∧ (((v1 (a0 + 35) ((36 * a1) + a3)) = (v1 (a0 + 35) ((36 * a2) + a3)) →
      zI (a3 + 1) ∧ K 2 [(2, a0), (0, a1), (0, a2), (0, a3 + 1)] [] v1 115) ∧
      (¬ (v1 (a0 + 35) ((36 * a1) + a3)) = (v1 (a0 + 35) ((36 * a2) + a3)) →
      ((0 : Int) = 0 ∨ (0 : Int) = 1) ∧ Q 0 v1)))))))) : zx l G 1 (d + 1) h_M_areLike k_M_areLike 115 Q QX K 300 (k_M_areLike.drop 2) [(2, a0), (0, a1), (0, a2), (0, a3)] [] v 115 := h
set_option maxRecDepth 100000 in
theorem sg_M_steady_0 {l : Launch} {G : zG} {d : Nat} {Q : Int → zH → Prop} {QX : Nat → zH → Prop} {K : Nat → List zV → List zV → zH → Nat → Prop} {a0 a1 : Int} {v : zH} (h : zCL a0 = 11 ∧ (((v a0 31) = 0 →
  Q ((-1)) v) ∧
  (¬ (v a0 31) = 0 →
  zC l G 1 d h_M_in [(0, a1), (0, 0), (0, 1)] v 115 (fun r1 v1 =>
    ((¬ r1 = 0 →
    zCL a0 = 11 ∧ zC l G 1 d h_M_putAside [(2, a0)] v1 115 (fun _ v2 =>
      K 14 [(2, a0), (0, a1), (0, 0), (3, 0)] [] v2 115)) ∧
    (r1 = 0 →
    Q ((-1)) v1)))))) : zx l G 1 (d + 1) h_M_steady k_M_steady 115 Q QX K 300 (k_M_steady.drop 0) [(2, a0), (0, a1), (3, 0), (3, 0)] [] v 115 := h
set_option maxRecDepth 100000 in
theorem sg_M_steady_14 {l : Launch} {G : zG} {d : Nat} {Q : Int → zH → Prop} {QX : Nat → zH → Prop} {K : Nat → List zV → List zV → zH → Nat → Prop} {a0 a1 a2 : Int} {v : zH} (h : ((20 < a2 →
  zCL a0 = 11 ∧ zC l G 1 d h_M_takeBack [(2, a0)] v 115 (fun _ v1 =>
    K 45 [(2, a0), (0, a1), (0, 1), (3, 0)] [] v1 115)) ∧
  (a2 ≤ 20 →
  K 19 [(2, a0), (0, a1), (0, a2), (0, 0)] [] v 115))) : zx l G 1 (d + 1) h_M_steady k_M_steady 115 Q QX K 300 (k_M_steady.drop 14) [(2, a0), (0, a1), (0, a2), (3, 0)] [] v 115 := h
set_option maxRecDepth 100000 in
theorem sg_M_steady_19 {l : Launch} {G : zG} {d : Nat} {Q : Int → zH → Prop} {QX : Nat → zH → Prop} {K : Nat → List zV → List zV → zH → Nat → Prop} {a0 a1 a2 a3 : Int} {v : zH} (h : ((36 ≤ a3 →
  zCL a0 = 11 ∧ zC l G 1 d h_M_passAll [(2, a0), (0, 24)] v 115 (fun _ v1 =>
    zI (a2 + 1) ∧ K 14 [(2, a0), (0, a1), (0, a2 + 1), (3, 0)] [] v1 115)) ∧
  (a3 < 36 →
  zCL a0 = 11 ∧ zI (36 * a2) ∧ zI ((36 * a2) + a3) ∧ zCL a0 = 11 ∧ zCL (a0 + 20) = 20 ∧ (0 ≤ a3 ∧ a3 < zLN (a0 + 20)) ∧ zCL (a0 + 35) = 20 ∧ (0 ≤ ((36 * a2) + a3) ∧ ((36 * a2) + a3) < zLN (a0 + 35)) ∧ zI (a3 + 1) ∧ K 19 [(2, a0), (0, a1), (0, a2), (0, a3 + 1)] [] (zupd v (a0 + 35) ((36 * a2) + a3) (v (a0 + 20) a3)) 115))) : zx l G 1 (d + 1) h_M_steady k_M_steady 115 Q QX K 300 (k_M_steady.drop 19) [(2, a0), (0, a1), (0, a2), (0, a3)] [] v 115 := h
set_option maxRecDepth 100000 in
theorem sg_M_steady_45 {l : Launch} {G : zG} {d : Nat} {Q : Int → zH → Prop} {QX : Nat → zH → Prop} {K : Nat → List zV → List zV → zH → Nat → Prop} {a0 a1 a2 : Int} {v : zH} (h : ((20 < a2 →
  Q ((-1)) v) ∧
  (a2 ≤ 20 →
  K 50 [(2, a0), (0, a1), (0, a2), (0, 0)] [] v 115))) : zx l G 1 (d + 1) h_M_steady k_M_steady 115 Q QX K 300 (k_M_steady.drop 45) [(2, a0), (0, a1), (0, a2), (3, 0)] [] v 115 := h
set_option maxRecDepth 100000 in
theorem sg_M_steady_50 {l : Launch} {G : zG} {d : Nat} {Q : Int → zH → Prop} {QX : Nat → zH → Prop} {K : Nat → List zV → List zV → zH → Nat → Prop} {a0 a1 a2 a3 : Int} {v : zH} (h : ((a2 ≤ a3 →
  zI (a2 + 1) ∧ K 45 [(2, a0), (0, a1), (0, a2 + 1), (3, 0)] [] v 115) ∧
  (a3 < a2 →
  zCL a0 = 11 ∧ zC l G 1 d h_M_areLike [(2, a0), (0, a3), (0, a2)] v 115 (fun r1 v1 =>
    ((r1 = 0 →
    zI (a3 + 1) ∧ K 50 [(2, a0), (0, a1), (0, a2), (0, a3 + 1)] [] v1 115) ∧
    (¬ r1 = 0 →
    ((¬ a1 = 0 →
      zI (a2 - a3) ∧ Q (a2 - a3) v1) ∧
      (a1 = 0 →
      Q a3 v1)))))))) : zx l G 1 (d + 1) h_M_steady k_M_steady 115 Q QX K 300 (k_M_steady.drop 50) [(2, a0), (0, a1), (0, a2), (0, a3)] [] v 115 := h
set_option maxRecDepth 100000 in
theorem sg_M_image_0 {l : Launch} {G : zG} {d : Nat} {Q : Int → zH → Prop} {QX : Nat → zH → Prop} {K : Nat → List zV → List zV → zH → Nat → Prop} {a0 : Int} {v : zH} (h : zCL a0 = 11 ∧ ((¬ (v a0 31) = 0 →
  zCL a0 = 11 ∧ zCL a0 = 11 ∧ zC l G 1 d h_M_copy [(2, a0 + 20), (2, a0 + 36)] v 115 (fun _ v1 =>
    zCL a0 = 11 ∧ zCL a0 = 11 ∧ zCL a0 = 11 ∧ ((1 : Int) = 0 ∨ (1 : Int) = 1) ∧ zCL a0 = 11 ∧ Q ((zupd (zupd v1 a0 61 (v1 a0 36)) a0 62 1) a0 36) (zupd (zupd v1 a0 61 (v1 a0 36)) a0 62 1))) ∧
  ((v a0 31) = 0 →
  Q ((-1)) v))) : zx l G 1 (d + 1) h_M_image k_M_image 115 Q QX K 300 (k_M_image.drop 0) [(2, a0)] [] v 115 := h
set_option maxRecDepth 100000 in
theorem sg_M_back_0 {l : Launch} {G : zG} {d : Nat} {Q : Int → zH → Prop} {QX : Nat → zH → Prop} {K : Nat → List zV → List zV → zH → Nat → Prop} {a0 : Int} {v : zH} (h : zCL a0 = 11 ∧ ((¬ (v a0 62) = 0 →
  zCL a0 = 11 ∧ zCL a0 = 11 ∧ zC l G 1 d h_M_copy [(2, a0 + 36), (2, a0 + 20)] v 115 (fun _ v1 =>
    zCL a0 = 11 ∧ zCL a0 = 11 ∧ zCL a0 = 11 ∧ zCL a0 = 11 ∧ Q ((zupd (zupd v1 a0 36 (v1 a0 61)) a0 46 0) a0 36) (zupd (zupd v1 a0 36 (v1 a0 61)) a0 46 0))) ∧
  ((v a0 62) = 0 →
  Q ((-1)) v))) : zx l G 1 (d + 1) h_M_back k_M_back 115 Q QX K 300 (k_M_back.drop 0) [(2, a0)] [] v 115 := h
set_option maxRecDepth 100000 in
theorem sg_M_count_0 {l : Launch} {G : zG} {d : Nat} {Q : Int → zH → Prop} {QX : Nat → zH → Prop} {K : Nat → List zV → List zV → zH → Nat → Prop} {a0 a1 : Int} {v : zH} (h : ((a1 < 0 → Q ((-1000000)) v) ∧
  (a1 = 0 → zCL a0 = 11 ∧ Q (v a0 31) v) ∧
  (a1 = 1 → zCL a0 = 11 ∧ ((¬ (v a0 31) = 0 →
    zCL a0 = 11 ∧ Q (v a0 32) v) ∧
    ((v a0 31) = 0 →
    Q 0 v))) ∧
  (a1 = 2 → zCL a0 = 11 ∧ Q (v a0 30) v) ∧
  (a1 = 3 → zCL a0 = 11 ∧ Q (v a0 33) v) ∧
  (a1 = 4 → zCL a0 = 11 ∧ Q (v a0 34) v) ∧
  (a1 = 5 → zCL a0 = 11 ∧ Q (v a0 13) v) ∧
  (a1 = 6 → zCL a0 = 11 ∧ Q (v a0 2) v) ∧
  (a1 = 7 → zCL a0 = 11 ∧ Q (v a0 36) v) ∧
  (a1 = 8 → zCL a0 = 11 ∧ Q (v a0 38) v) ∧
  (a1 = 9 → zCL a0 = 11 ∧ Q (v a0 56) v) ∧
  (a1 = 10 → zCL a0 = 11 ∧ Q (v a0 46) v) ∧
  (a1 = 11 → zCL a0 = 11 ∧ Q (v a0 37) v) ∧
  (12 ≤ a1 → Q ((-1000000)) v))) : zx l G 1 (d + 1) h_M_count k_M_count 115 Q QX K 300 (k_M_count.drop 0) [(2, a0), (0, a1)] [] v 115 := h
