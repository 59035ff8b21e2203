/-! what each stretch comes to -/
set_option maxRecDepth 100000 in
theorem sg_Intg_bitCount_0 {l : Launch} {G : zG} {d : Nat} {Q : Int → zH → Prop} {QX : Nat → zH → Prop} {K : Nat → List zV → List zV → zH → Nat → Prop} {a0 : Int} {v : zH} (h : zI (a0 - (zand (zushr a0 1) 1431655765)) ∧ zI ((zand (a0 - (zand (zushr a0 1) 1431655765)) 858993459) + (zand (zushr (a0 - (zand (zushr a0 1) 1431655765)) 2) 858993459)) ∧ zI (((zand (a0 - (zand (zushr a0 1) 1431655765)) 858993459) + (zand (zushr (a0 - (zand (zushr a0 1) 1431655765)) 2) 858993459)) + (zushr ((zand (a0 - (zand (zushr a0 1) 1431655765)) 858993459) + (zand (zushr (a0 - (zand (zushr a0 1) 1431655765)) 2) 858993459)) 4)) ∧ zI ((zand (((zand (a0 - (zand (zushr a0 1) 1431655765)) 858993459) + (zand (zushr (a0 - (zand (zushr a0 1) 1431655765)) 2) 858993459)) + (zushr ((zand (a0 - (zand (zushr a0 1) 1431655765)) 858993459) + (zand (zushr (a0 - (zand (zushr a0 1) 1431655765)) 2) 858993459)) 4)) 252645135) + (zushr (zand (((zand (a0 - (zand (zushr a0 1) 1431655765)) 858993459) + (zand (zushr (a0 - (zand (zushr a0 1) 1431655765)) 2) 858993459)) + (zushr ((zand (a0 - (zand (zushr a0 1) 1431655765)) 858993459) + (zand (zushr (a0 - (zand (zushr a0 1) 1431655765)) 2) 858993459)) 4)) 252645135) 8)) ∧ zI (((zand (((zand (a0 - (zand (zushr a0 1) 1431655765)) 858993459) + (zand (zushr (a0 - (zand (zushr a0 1) 1431655765)) 2) 858993459)) + (zushr ((zand (a0 - (zand (zushr a0 1) 1431655765)) 858993459) + (zand (zushr (a0 - (zand (zushr a0 1) 1431655765)) 2) 858993459)) 4)) 252645135) + (zushr (zand (((zand (a0 - (zand (zushr a0 1) 1431655765)) 858993459) + (zand (zushr (a0 - (zand (zushr a0 1) 1431655765)) 2) 858993459)) + (zushr ((zand (a0 - (zand (zushr a0 1) 1431655765)) 858993459) + (zand (zushr (a0 - (zand (zushr a0 1) 1431655765)) 2) 858993459)) 4)) 252645135) 8)) + (zushr ((zand (((zand (a0 - (zand (zushr a0 1) 1431655765)) 858993459) + (zand (zushr (a0 - (zand (zushr a0 1) 1431655765)) 2) 858993459)) + (zushr ((zand (a0 - (zand (zushr a0 1) 1431655765)) 858993459) + (zand (zushr (a0 - (zand (zushr a0 1) 1431655765)) 2) 858993459)) 4)) 252645135) + (zushr (zand (((zand (a0 - (zand (zushr a0 1) 1431655765)) 858993459) + (zand (zushr (a0 - (zand (zushr a0 1) 1431655765)) 2) 858993459)) + (zushr ((zand (a0 - (zand (zushr a0 1) 1431655765)) 858993459) + (zand (zushr (a0 - (zand (zushr a0 1) 1431655765)) 2) 858993459)) 4)) 252645135) 8)) 16)) ∧ Q (zand (((zand (((zand (a0 - (zand (zushr a0 1) 1431655765)) 858993459) + (zand (zushr (a0 - (zand (zushr a0 1) 1431655765)) 2) 858993459)) + (zushr ((zand (a0 - (zand (zushr a0 1) 1431655765)) 858993459) + (zand (zushr (a0 - (zand (zushr a0 1) 1431655765)) 2) 858993459)) 4)) 252645135) + (zushr (zand (((zand (a0 - (zand (zushr a0 1) 1431655765)) 858993459) + (zand (zushr (a0 - (zand (zushr a0 1) 1431655765)) 2) 858993459)) + (zushr ((zand (a0 - (zand (zushr a0 1) 1431655765)) 858993459) + (zand (zushr (a0 - (zand (zushr a0 1) 1431655765)) 2) 858993459)) 4)) 252645135) 8)) + (zushr ((zand (((zand (a0 - (zand (zushr a0 1) 1431655765)) 858993459) + (zand (zushr (a0 - (zand (zushr a0 1) 1431655765)) 2) 858993459)) + (zushr ((zand (a0 - (zand (zushr a0 1) 1431655765)) 858993459) + (zand (zushr (a0 - (zand (zushr a0 1) 1431655765)) 2) 858993459)) 4)) 252645135) + (zushr (zand (((zand (a0 - (zand (zushr a0 1) 1431655765)) 858993459) + (zand (zushr (a0 - (zand (zushr a0 1) 1431655765)) 2) 858993459)) + (zushr ((zand (a0 - (zand (zushr a0 1) 1431655765)) 858993459) + (zand (zushr (a0 - (zand (zushr a0 1) 1431655765)) 2) 858993459)) 4)) 252645135) 8)) 16)) 63) v) : zx l G 1 (d + 1) h_Intg_bitCount k_Intg_bitCount 115 Q QX K 300 (k_Intg_bitCount.drop 0) [(0, a0)] [] v 115 := h
set_option maxRecDepth 100000 in
theorem sg_Math_floorMod_0 {l : Launch} {G : zG} {d : Nat} {Q : Int → zH → Prop} {QX : Nat → zH → Prop} {K : Nat → List zV → List zV → zH → Nat → Prop} {a0 a1 : Int} {v : zH} (h : ¬ a1 = 0 ∧ zI (a0.tdiv a1) ∧ ((0 ≤ (zxor a0 a1) →
  Q (a0.tmod a1) v) ∧
  ((zxor a0 a1) < 0 →
  (((a0.tmod a1) = 0 →
    Q (a0.tmod a1) v) ∧
    (¬ (a0.tmod a1) = 0 →
    zI ((a0.tmod a1) + a1) ∧ Q ((a0.tmod a1) + a1) v))))) : zx l G 1 (d + 1) h_Math_floorMod k_Math_floorMod 115 Q QX K 300 (k_Math_floorMod.drop 0) [(0, a0), (0, a1), (3, 0)] [] v 115 := h
set_option maxRecDepth 100000 in
theorem sg_Str_charAt_0 {l : Launch} {G : zG} {d : Nat} {Q : Int → zH → Prop} {QX : Nat → zH → Prop} {K : Nat → List zV → List zV → zH → Nat → Prop} {a0 a1 : Int} {v : zH} (h : zCL a0 = 26 ∧ zC l G 1 d h_Str_isLatin1 [(2, a0)] v 115 (fun r1 v1 =>
  ((r1 = 0 →
  zCL a0 = 26 ∧ zC l G 1 d h_SU16_charAt [(2, a0 - 20), (0, a1)] v1 115 (fun r2 v2 =>
    (0 ≤ r2 ∧ r2 ≤ 65535) ∧ Q r2 v2)) ∧
  (¬ r1 = 0 →
  zCL a0 = 26 ∧ zC l G 1 d h_SL1_charAt [(2, a0 - 20), (0, a1)] v1 115 (fun r3 v3 =>
    (0 ≤ r3 ∧ r3 ≤ 65535) ∧ Q r3 v3))))) : zx l G 1 (d + 1) h_Str_charAt k_Str_charAt 115 Q QX K 300 (k_Str_charAt.drop 0) [(2, a0), (0, a1)] [] v 115 := h
set_option maxRecDepth 100000 in
theorem sg_Str_checkIndex_0 {l : Launch} {G : zG} {d : Nat} {Q : Int → zH → Prop} {QX : Nat → zH → Prop} {K : Nat → List zV → List zV → zH → Nat → Prop} {a0 a1 : Int} {v : zH} (h : zC l G 1 d h_Pre_checkIndex [(0, a0), (0, a1), (5, zgF G)] v 115 (fun r1 v1 =>
  Q 0 v1)) : zx l G 1 (d + 1) h_Str_checkIndex k_Str_checkIndex 115 Q QX K 300 (k_Str_checkIndex.drop 0) [(0, a0), (0, a1)] [] v 115 := h
set_option maxRecDepth 100000 in
theorem sg_Str_coder_0 {l : Launch} {G : zG} {d : Nat} {Q : Int → zH → Prop} {QX : Nat → zH → Prop} {K : Nat → List zV → List zV → zH → Nat → Prop} {a0 : Int} {v : zH} (h : (((1 : Int) = 0 →
  (-128 ≤ (1 : Int) ∧ (1 : Int) ≤ 127) ∧ Q 1 v) ∧
  (¬ (1 : Int) = 0 →
  zCL a0 = 26 ∧ (-128 ≤ (0 : Int) ∧ (0 : Int) ≤ 127) ∧ Q 0 v))) : zx l G 1 (d + 1) h_Str_coder k_Str_coder 115 Q QX K 300 (k_Str_coder.drop 0) [(2, a0)] [] v 115 := h
set_option maxRecDepth 100000 in
theorem sg_Str_isLatin1_0 {l : Launch} {G : zG} {d : Nat} {Q : Int → zH → Prop} {QX : Nat → zH → Prop} {K : Nat → List zV → List zV → zH → Nat → Prop} {a0 : Int} {v : zH} (h : (((1 : Int) = 0 →
  ((0 : Int) = 0 ∨ (0 : Int) = 1) ∧ Q 0 v) ∧
  (¬ (1 : Int) = 0 →
  zCL a0 = 26 ∧ ((¬ (0 : Int) = 0 →
    ((0 : Int) = 0 ∨ (0 : Int) = 1) ∧ Q 0 v) ∧
    ((0 : Int) = 0 →
    ((1 : Int) = 0 ∨ (1 : Int) = 1) ∧ Q 1 v))))) : zx l G 1 (d + 1) h_Str_isLatin1 k_Str_isLatin1 115 Q QX K 300 (k_Str_isLatin1.drop 0) [(2, a0)] [] v 115 := h
set_option maxRecDepth 100000 in
theorem sg_Str_length_0 {l : Launch} {G : zG} {d : Nat} {Q : Int → zH → Prop} {QX : Nat → zH → Prop} {K : Nat → List zV → List zV → zH → Nat → Prop} {a0 : Int} {v : zH} (h : zCL a0 = 26 ∧ zCL (a0 - 20) = 28 ∧ zCL a0 = 26 ∧ zC l G 1 d h_Str_coder [(2, a0)] v 115 (fun r1 v1 =>
  Q (zshr (zLN (a0 - 20)) r1) v1)) : zx l G 1 (d + 1) h_Str_length k_Str_length 115 Q QX K 300 (k_Str_length.drop 0) [(2, a0)] [] v 115 := h
set_option maxRecDepth 100000 in
theorem sg_SL1_charAt_0 {l : Launch} {G : zG} {d : Nat} {Q : Int → zH → Prop} {QX : Nat → zH → Prop} {K : Nat → List zV → List zV → zH → Nat → Prop} {a0 a1 : Int} {v : zH} (h : zCL a0 = 28 ∧ zC l G 1 d h_Str_checkIndex [(0, a1), (0, zLN a0)] v 115 (fun _ v1 =>
  zCL a0 = 28 ∧ (0 ≤ a1 ∧ a1 < zLN a0) ∧ (0 ≤ (zand (zLA a0 a1) 255) ∧ (zand (zLA a0 a1) 255) ≤ 65535) ∧ (0 ≤ (zand (zLA a0 a1) 255) ∧ (zand (zLA a0 a1) 255) ≤ 65535) ∧ Q (zand (zLA a0 a1) 255) v1)) : zx l G 1 (d + 1) h_SL1_charAt k_SL1_charAt 115 Q QX K 300 (k_SL1_charAt.drop 0) [(2, a0), (0, a1)] [] v 115 := h
set_option maxRecDepth 100000 in
theorem sg_Pre_checkIndex_0 {l : Launch} {G : zG} {d : Nat} {Q : Int → zH → Prop} {QX : Nat → zH → Prop} {K : Nat → List zV → List zV → zH → Nat → Prop} {a0 a1 a2 : Int} {v : zH} (h : ((a0 < 0 →
  False) ∧
  (0 ≤ a0 →
  ((a0 < a1 →
    Q a0 v) ∧
    (a1 ≤ a0 →
    False))))) : zx l G 1 (d + 1) h_Pre_checkIndex k_Pre_checkIndex 115 Q QX K 300 (k_Pre_checkIndex.drop 0) [(0, a0), (0, a1), (2, a2)] [] v 115 := h
set_option maxRecDepth 100000 in
theorem sg_Ta_bytesIn_0 {l : Launch} {G : zG} {d : Nat} {Q : Int → zH → Prop} {QX : Nat → zH → Prop} {K : Nat → List zV → List zV → zH → Nat → Prop} {a0 : Int} {v : zH} (h : K 4 [(0, a0), (0, 0), (0, 24)] [] v 115) : zx l G 1 (d + 1) h_Ta_bytesIn k_Ta_bytesIn 115 Q QX K 300 (k_Ta_bytesIn.drop 0) [(0, a0), (3, 0), (3, 0)] [] v 115 := h
set_option maxRecDepth 100000 in
theorem sg_Ta_bytesIn_4 {l : Launch} {G : zG} {d : Nat} {Q : Int → zH → Prop} {QX : Nat → zH → Prop} {K : Nat → List zV → List zV → zH → Nat → Prop} {a0 a1 a2 : Int} {v : zH} (h : ((a2 < 0 →
  Q a1 v) ∧
  (0 ≤ a2 →
  (((zand (zushr a0 a2) 255) = 0 →
    zI (a2 + (-8)) ∧ K 4 [(0, a0), (0, a1), (0, a2 + (-8))] [] v 115) ∧
    (¬ (zand (zushr a0 a2) 255) = 0 →
    zI (a1 + 1) ∧ zI (a2 + (-8)) ∧ K 4 [(0, a0), (0, a1 + 1), (0, a2 + (-8))] [] v 115))))) : zx l G 1 (d + 1) h_Ta_bytesIn k_Ta_bytesIn 115 Q QX K 300 (k_Ta_bytesIn.drop 4) [(0, a0), (0, a1), (0, a2)] [] v 115 := h
set_option maxRecDepth 100000 in
theorem sg_Ta_append_0 {l : Launch} {G : zG} {d : Nat} {Q : Int → zH → Prop} {QX : Nat → zH → Prop} {K : Nat → List zV → List zV → zH → Nat → Prop} {a0 a1 : Int} {v : zH} (h : K 2 [(2, a0), (0, a1), (0, 24), (3, 0)] [] v 115) : zx l G 1 (d + 1) h_Ta_append k_Ta_append 115 Q QX K 300 (k_Ta_append.drop 0) [(2, a0), (0, a1), (3, 0), (3, 0)] [] v 115 := h
set_option maxRecDepth 100000 in
theorem sg_Ta_append_2 {l : Launch} {G : zG} {d : Nat} {Q : Int → zH → Prop} {QX : Nat → zH → Prop} {K : Nat → List zV → List zV → zH → Nat → Prop} {a0 a1 a2 : Int} {v : zH} (h : ((a2 < 0 →
  Q 0 v) ∧
  (0 ≤ a2 →
  (((zand (zushr a1 a2) 255) = 0 →
    zI (a2 + (-8)) ∧ K 2 [(2, a0), (0, a1), (0, a2 + (-8)), (3, 0)] [] v 115) ∧
    (¬ (zand (zushr a1 a2) 255) = 0 →
    zCL a0 = 6 ∧ zCL a0 = 6 ∧ (zCL (a0 + 1) = 20 ∨ zCL (a0 + 1) = 21) ∧ (((zLN (a0 + 1)) ≤ (v a0 1) →
      zI (a2 + (-8)) ∧ K 2 [(2, a0), (0, a1), (0, a2 + (-8)), (3, 0)] [] v 115) ∧
      ((v a0 1) < (zLN (a0 + 1)) →
      zCL a0 = 6 ∧ zCL a0 = 6 ∧ zCL (a0 + 1) = 20 ∧ (0 ≤ (v a0 1) ∧ (v a0 1) < zLN (a0 + 1)) ∧ zCL a0 = 6 ∧ zI (((zupd v (a0 + 1) (v a0 1) (zand (zushr a1 a2) 255)) a0 1) + 1) ∧ zCL a0 = 6 ∧ zI (a2 + (-8)) ∧ K 2 [(2, a0), (0, a1), (0, a2 + (-8)), (3, 0)] [] (zupd (zupd v (a0 + 1) (v a0 1) (zand (zushr a1 a2) 255)) a0 1 (((zupd v (a0 + 1) (v a0 1) (zand (zushr a1 a2) 255)) a0 1) + 1)) 115))))))) : zx l G 1 (d + 1) h_Ta_append k_Ta_append 115 Q QX K 300 (k_Ta_append.drop 2) [(2, a0), (0, a1), (0, a2), (3, 0)] [] v 115 := h
set_option maxRecDepth 100000 in
theorem sg_WR_sign_0 {l : Launch} {G : zG} {d : Nat} {Q : Int → zH → Prop} {QX : Nat → zH → Prop} {K : Nat → List zV → List zV → zH → Nat → Prop} {a0 : Int} {v : zH} (h : zCL a0 = 9 ∧ zCL a0 = 9 ∧ zCL (a0 + (-2)) = 6 ∧ (((v (a0 + (-2)) 1) ≤ (v a0 1) →
  zCL a0 = 9 ∧ zCL a0 = 9 ∧ zCL (a0 + (-2)) = 6 ∧ (((v (a0 + (-2)) 1) ≤ (v a0 1) →
    Q ((-1)) v) ∧
    ((v a0 1) < (v (a0 + (-2)) 1) →
    zCL a0 = 9 ∧ zCL (a0 + (-2)) = 6 ∧ zCL a0 = 9 ∧ zCL ((a0 + (-2)) + 1) = 20 ∧ (0 ≤ (v a0 1) ∧ (v a0 1) < zLN ((a0 + (-2)) + 1)) ∧ Q (v ((a0 + (-2)) + 1) (v a0 1)) v))) ∧
  ((v a0 1) < (v (a0 + (-2)) 1) →
  zCL a0 = 9 ∧ zCL (a0 + (-2)) = 6 ∧ zCL a0 = 9 ∧ zCL ((a0 + (-2)) + 1) = 20 ∧ (0 ≤ (v a0 1) ∧ (v a0 1) < zLN ((a0 + (-2)) + 1)) ∧ ((¬ (v ((a0 + (-2)) + 1) (v a0 1)) = 32 →
    zCL a0 = 9 ∧ zCL a0 = 9 ∧ zCL (a0 + (-2)) = 6 ∧ (((v (a0 + (-2)) 1) ≤ (v a0 1) →
      Q ((-1)) v) ∧
      ((v a0 1) < (v (a0 + (-2)) 1) →
      zCL a0 = 9 ∧ zCL (a0 + (-2)) = 6 ∧ zCL a0 = 9 ∧ zCL ((a0 + (-2)) + 1) = 20 ∧ (0 ≤ (v a0 1) ∧ (v a0 1) < zLN ((a0 + (-2)) + 1)) ∧ Q (v ((a0 + (-2)) + 1) (v a0 1)) v))) ∧
    ((v ((a0 + (-2)) + 1) (v a0 1)) = 32 →
    zCL a0 = 9 ∧ zI ((v a0 1) + 1) ∧ zCL a0 = 9 ∧ K 0 [(2, a0)] [] (zupd v a0 1 ((v a0 1) + 1)) 115))))) : zx l G 1 (d + 1) h_WR_sign k_WR_sign 115 Q QX K 300 (k_WR_sign.drop 0) [(2, a0)] [] v 115 := h
set_option maxRecDepth 100000 in
theorem sg_LR_sign_0 {l : Launch} {G : zG} {d : Nat} {Q : Int → zH → Prop} {QX : Nat → zH → Prop} {K : Nat → List zV → List zV → zH → Nat → Prop} {a0 : Int} {v : zH} (h : zCL a0 = 3 ∧ zCL a0 = 3 ∧ zCL (a0 + (-3)) = 6 ∧ (((v (a0 + (-3)) 1) ≤ (v a0 1) →
  zCL a0 = 3 ∧ zCL a0 = 3 ∧ zCL (a0 + (-3)) = 6 ∧ (((v (a0 + (-3)) 1) ≤ (v a0 1) →
    Q ((-1)) v) ∧
    ((v a0 1) < (v (a0 + (-3)) 1) →
    zCL a0 = 3 ∧ zCL (a0 + (-3)) = 6 ∧ zCL a0 = 3 ∧ zCL ((a0 + (-3)) + 1) = 20 ∧ (0 ≤ (v a0 1) ∧ (v a0 1) < zLN ((a0 + (-3)) + 1)) ∧ Q (v ((a0 + (-3)) + 1) (v a0 1)) v))) ∧
  ((v a0 1) < (v (a0 + (-3)) 1) →
  zCL a0 = 3 ∧ zCL (a0 + (-3)) = 6 ∧ zCL a0 = 3 ∧ zCL ((a0 + (-3)) + 1) = 20 ∧ (0 ≤ (v a0 1) ∧ (v a0 1) < zLN ((a0 + (-3)) + 1)) ∧ ((¬ (v ((a0 + (-3)) + 1) (v a0 1)) = 32 →
    zCL a0 = 3 ∧ zCL a0 = 3 ∧ zCL (a0 + (-3)) = 6 ∧ (((v (a0 + (-3)) 1) ≤ (v a0 1) →
      Q ((-1)) v) ∧
      ((v a0 1) < (v (a0 + (-3)) 1) →
      zCL a0 = 3 ∧ zCL (a0 + (-3)) = 6 ∧ zCL a0 = 3 ∧ zCL ((a0 + (-3)) + 1) = 20 ∧ (0 ≤ (v a0 1) ∧ (v a0 1) < zLN ((a0 + (-3)) + 1)) ∧ Q (v ((a0 + (-3)) + 1) (v a0 1)) v))) ∧
    ((v ((a0 + (-3)) + 1) (v a0 1)) = 32 →
    zCL a0 = 3 ∧ zI ((v a0 1) + 1) ∧ zCL a0 = 3 ∧ K 0 [(2, a0)] [] (zupd v a0 1 ((v a0 1) + 1)) 115))))) : zx l G 1 (d + 1) h_LR_sign k_LR_sign 115 Q QX K 300 (k_LR_sign.drop 0) [(2, a0)] [] v 115 := h
set_option maxRecDepth 100000 in
theorem sg_WR_takes_0 {l : Launch} {G : zG} {d : Nat} {Q : Int → zH → Prop} {QX : Nat → zH → Prop} {K : Nat → List zV → List zV → zH → Nat → Prop} {a0 a1 : Int} {v : zH} (h : zCL a0 = 9 ∧ zC l G 1 d h_WR_sign [(2, a0)] v 115 (fun r1 v1 =>
  ((r1 = a1 →
  zCL a0 = 9 ∧ zI ((v1 a0 1) + 1) ∧ zCL a0 = 9 ∧ ((1 : Int) = 0 ∨ (1 : Int) = 1) ∧ Q 1 (zupd v1 a0 1 ((v1 a0 1) + 1))) ∧
  (¬ r1 = a1 →
  ((0 : Int) = 0 ∨ (0 : Int) = 1) ∧ Q 0 v1)))) : zx l G 1 (d + 1) h_WR_takes k_WR_takes 115 Q QX K 300 (k_WR_takes.drop 0) [(2, a0), (0, a1)] [] v 115 := h
set_option maxRecDepth 100000 in
theorem sg_LR_takes_0 {l : Launch} {G : zG} {d : Nat} {Q : Int → zH → Prop} {QX : Nat → zH → Prop} {K : Nat → List zV → List zV → zH → Nat → Prop} {a0 a1 : Int} {v : zH} (h : zCL a0 = 3 ∧ zC l G 1 d h_LR_sign [(2, a0)] v 115 (fun r1 v1 =>
  ((r1 = a1 →
  zCL a0 = 3 ∧ zI ((v1 a0 1) + 1) ∧ zCL a0 = 3 ∧ ((1 : Int) = 0 ∨ (1 : Int) = 1) ∧ Q 1 (zupd v1 a0 1 ((v1 a0 1) + 1))) ∧
  (¬ r1 = a1 →
  ((0 : Int) = 0 ∨ (0 : Int) = 1) ∧ Q 0 v1)))) : zx l G 1 (d + 1) h_LR_takes k_LR_takes 115 Q QX K 300 (k_LR_takes.drop 0) [(2, a0), (0, a1)] [] v 115 := h
set_option maxRecDepth 100000 in
theorem sg_WR_digits_0 {l : Launch} {G : zG} {d : Nat} {Q : Int → zH → Prop} {QX : Nat → zH → Prop} {K : Nat → List zV → List zV → zH → Nat → Prop} {a0 a1 : Int} {v : zH} (h : zCL a0 = 9 ∧ zC l G 1 d h_WR_sign [(2, a0)] v 115 (fun r1 v1 =>
  K 7 [(2, a0), (0, a1), (0, 0), (0, 0)] [] v1 115)) : zx l G 1 (d + 1) h_WR_digits k_WR_digits 115 Q QX K 300 (k_WR_digits.drop 0) [(2, a0), (0, a1), (3, 0), (3, 0)] [] v 115 := h
set_option maxRecDepth 100000 in
theorem sg_WR_digits_7 {l : Launch} {G : zG} {d : Nat} {Q : Int → zH → Prop} {QX : Nat → zH → Prop} {K : Nat → List zV → List zV → zH → Nat → Prop} {a0 a1 a2 a3 : Int} {v : zH} (h : zCL a0 = 9 ∧ zCL a0 = 9 ∧ zCL (a0 + (-2)) = 6 ∧ (((v (a0 + (-2)) 1) ≤ (v a0 1) →
  ((¬ a3 = 0 →
    Q a2 v) ∧
    (a3 = 0 →
    Q ((-1)) v))) ∧
  ((v a0 1) < (v (a0 + (-2)) 1) →
  zCL a0 = 9 ∧ zCL (a0 + (-2)) = 6 ∧ zCL a0 = 9 ∧ zCL ((a0 + (-2)) + 1) = 20 ∧ (0 ≤ (v a0 1) ∧ (v a0 1) < zLN ((a0 + (-2)) + 1)) ∧ (((v ((a0 + (-2)) + 1) (v a0 1)) < 48 →
    ((¬ a3 = 0 →
      Q a2 v) ∧
      (a3 = 0 →
      Q ((-1)) v))) ∧
    (48 ≤ (v ((a0 + (-2)) + 1) (v a0 1)) →
    zCL a0 = 9 ∧ zCL (a0 + (-2)) = 6 ∧ zCL a0 = 9 ∧ zCL ((a0 + (-2)) + 1) = 20 ∧ (0 ≤ (v a0 1) ∧ (v a0 1) < zLN ((a0 + (-2)) + 1)) ∧ ((57 < (v ((a0 + (-2)) + 1) (v a0 1)) →
      ((¬ a3 = 0 →
        Q a2 v) ∧
        (a3 = 0 →
        Q ((-1)) v))) ∧
      ((v ((a0 + (-2)) + 1) (v a0 1)) ≤ 57 →
      ((¬ a3 = a1 →
        zI (a2 * 10) ∧ zCL a0 = 9 ∧ zCL (a0 + (-2)) = 6 ∧ zCL a0 = 9 ∧ zCL ((a0 + (-2)) + 1) = 20 ∧ (0 ≤ (v a0 1) ∧ (v a0 1) < zLN ((a0 + (-2)) + 1)) ∧ zI ((a2 * 10) + (v ((a0 + (-2)) + 1) (v a0 1))) ∧ zI (((a2 * 10) + (v ((a0 + (-2)) + 1) (v a0 1))) - 48) ∧ zI (a3 + 1) ∧ zCL a0 = 9 ∧ zI ((v a0 1) + 1) ∧ zCL a0 = 9 ∧ K 7 [(2, a0), (0, a1), (0, ((a2 * 10) + (v ((a0 + (-2)) + 1) (v a0 1))) - 48), (0, a3 + 1)] [] (zupd v a0 1 ((v a0 1) + 1)) 115) ∧
        (a3 = a1 →
        Q ((-1)) v))))))))) : zx l G 1 (d + 1) h_WR_digits k_WR_digits 115 Q QX K 300 (k_WR_digits.drop 7) [(2, a0), (0, a1), (0, a2), (0, a3)] [] v 115 := h
set_option maxRecDepth 100000 in
theorem sg_LR_digits_0 {l : Launch} {G : zG} {d : Nat} {Q : Int → zH → Prop} {QX : Nat → zH → Prop} {K : Nat → List zV → List zV → zH → Nat → Prop} {a0 a1 : Int} {v : zH} (h : zCL a0 = 3 ∧ zC l G 1 d h_LR_sign [(2, a0)] v 115 (fun r1 v1 =>
  K 7 [(2, a0), (0, a1), (0, 0), (0, 0)] [] v1 115)) : zx l G 1 (d + 1) h_LR_digits k_LR_digits 115 Q QX K 300 (k_LR_digits.drop 0) [(2, a0), (0, a1), (3, 0), (3, 0)] [] v 115 := h
set_option maxRecDepth 100000 in
theorem sg_LR_digits_7 {l : Launch} {G : zG} {d : Nat} {Q : Int → zH → Prop} {QX : Nat → zH → Prop} {K : Nat → List zV → List zV → zH → Nat → Prop} {a0 a1 a2 a3 : Int} {v : zH} (h : zCL a0 = 3 ∧ zCL a0 = 3 ∧ zCL (a0 + (-3)) = 6 ∧ (((v (a0 + (-3)) 1) ≤ (v a0 1) →
  ((¬ a3 = 0 →
    Q a2 v) ∧
    (a3 = 0 →
    Q ((-1)) v))) ∧
  ((v a0 1) < (v (a0 + (-3)) 1) →
  zCL a0 = 3 ∧ zCL (a0 + (-3)) = 6 ∧ zCL a0 = 3 ∧ zCL ((a0 + (-3)) + 1) = 20 ∧ (0 ≤ (v a0 1) ∧ (v a0 1) < zLN ((a0 + (-3)) + 1)) ∧ (((v ((a0 + (-3)) + 1) (v a0 1)) < 48 →
    ((¬ a3 = 0 →
      Q a2 v) ∧
      (a3 = 0 →
      Q ((-1)) v))) ∧
    (48 ≤ (v ((a0 + (-3)) + 1) (v a0 1)) →
    zCL a0 = 3 ∧ zCL (a0 + (-3)) = 6 ∧ zCL a0 = 3 ∧ zCL ((a0 + (-3)) + 1) = 20 ∧ (0 ≤ (v a0 1) ∧ (v a0 1) < zLN ((a0 + (-3)) + 1)) ∧ ((57 < (v ((a0 + (-3)) + 1) (v a0 1)) →
      ((¬ a3 = 0 →
        Q a2 v) ∧
        (a3 = 0 →
        Q ((-1)) v))) ∧
      ((v ((a0 + (-3)) + 1) (v a0 1)) ≤ 57 →
      ((¬ a3 = a1 →
        zI (a2 * 10) ∧ zCL a0 = 3 ∧ zCL (a0 + (-3)) = 6 ∧ zCL a0 = 3 ∧ zCL ((a0 + (-3)) + 1) = 20 ∧ (0 ≤ (v a0 1) ∧ (v a0 1) < zLN ((a0 + (-3)) + 1)) ∧ zI ((a2 * 10) + (v ((a0 + (-3)) + 1) (v a0 1))) ∧ zI (((a2 * 10) + (v ((a0 + (-3)) + 1) (v a0 1))) - 48) ∧ zI (a3 + 1) ∧ zCL a0 = 3 ∧ zI ((v a0 1) + 1) ∧ zCL a0 = 3 ∧ K 7 [(2, a0), (0, a1), (0, ((a2 * 10) + (v ((a0 + (-3)) + 1) (v a0 1))) - 48), (0, a3 + 1)] [] (zupd v a0 1 ((v a0 1) + 1)) 115) ∧
        (a3 = a1 →
        Q ((-1)) v))))))))) : zx l G 1 (d + 1) h_LR_digits k_LR_digits 115 Q QX K 300 (k_LR_digits.drop 7) [(2, a0), (0, a1), (0, a2), (0, a3)] [] v 115 := h
set_option maxRecDepth 100000 in
theorem sg_Ki_has_0 {l : Launch} {G : zG} {d : Nat} {Q : Int → zH → Prop} {QX : Nat → zH → Prop} {K : Nat → List zV → List zV → zH → Nat → Prop} {a0 a1 : Int} {v : zH} (h : ((a1 < 0 →
  ((0 : Int) = 0 ∨ (0 : Int) = 1) ∧ Q 0 v) ∧
  (0 ≤ a1 →
  zCL a0 = 1 ∧ (((v a0 6) ≤ a1 →
    ((0 : Int) = 0 ∨ (0 : Int) = 1) ∧ Q 0 v) ∧
    (a1 < (v a0 6) →
    ((1 : Int) = 0 ∨ (1 : Int) = 1) ∧ Q 1 v))))) : zx l G 1 (d + 1) h_Ki_has k_Ki_has 115 Q QX K 300 (k_Ki_has.drop 0) [(2, a0), (0, a1)] [] v 115 := h
set_option maxRecDepth 100000 in
theorem sg_Ki_number_0 {l : Launch} {G : zG} {d : Nat} {Q : Int → zH → Prop} {QX : Nat → zH → Prop} {K : Nat → List zV → List zV → zH → Nat → Prop} {a0 a1 a2 : Int} {v : zH} (h : ((a1 < 0 →
  Q ((-1)) v) ∧
  (0 ≤ a1 →
  zCL a0 = 1 ∧ (((v a0 6) ≤ a1 →
    Q ((-1)) v) ∧
    (a1 < (v a0 6) →
    ((a2 < 0 →
      Q ((-1)) v) ∧
      (0 ≤ a2 →
      zCL a0 = 1 ∧ zCL (zKT 4 a0) = 25 ∧ ((a2 < (zLN (zKT 4 a0)) →
        zCL a0 = 1 ∧ zCL a0 = 1 ∧ zCL (zKT 4 a0) = 25 ∧ zI (a1 * (zLN (zKT 4 a0))) ∧ zI ((a1 * (zLN (zKT 4 a0))) + a2) ∧ zCL (a0 + 1) = 20 ∧ (0 ≤ ((a1 * (zLN (zKT 4 a0))) + a2) ∧ ((a1 * (zLN (zKT 4 a0))) + a2) < zLN (a0 + 1)) ∧ Q (v (a0 + 1) ((a1 * (zLN (zKT 4 a0))) + a2)) v) ∧
        ((zLN (zKT 4 a0)) ≤ a2 →
        Q ((-1)) v))))))))) : zx l G 1 (d + 1) h_Ki_number k_Ki_number 115 Q QX K 300 (k_Ki_number.drop 0) [(2, a0), (0, a1), (0, a2)] [] v 115 := h
set_option maxRecDepth 100000 in
theorem sg_Ki_addsOne_0 {l : Launch} {G : zG} {d : Nat} {Q : Int → zH → Prop} {QX : Nat → zH → Prop} {K : Nat → List zV → List zV → zH → Nat → Prop} {a0 : Int} {v : zH} (h : zCL a0 = 1 ∧ zCL a0 = 1 ∧ ((¬ (v a0 6) = (zKT 0 a0) →
  K 9 [(2, a0), (0, 0)] [] v 115) ∧
  ((v a0 6) = (zKT 0 a0) →
  ((0 : Int) = 0 ∨ (0 : Int) = 1) ∧ Q 0 v))) : zx l G 1 (d + 1) h_Ki_addsOne k_Ki_addsOne 115 Q QX K 300 (k_Ki_addsOne.drop 0) [(2, a0), (3, 0)] [] v 115 := h
set_option maxRecDepth 100000 in
theorem sg_Ki_addsOne_9 {l : Launch} {G : zG} {d : Nat} {Q : Int → zH → Prop} {QX : Nat → zH → Prop} {K : Nat → List zV → List zV → zH → Nat → Prop} {a0 a1 : Int} {v : zH} (h : zCL a0 = 1 ∧ zCL (zKT 4 a0) = 25 ∧ (((zLN (zKT 4 a0)) ≤ a1 →
  zCL a0 = 1 ∧ zI ((v a0 6) + 1) ∧ zCL a0 = 1 ∧ ((1 : Int) = 0 ∨ (1 : Int) = 1) ∧ Q 1 (zupd v a0 6 ((v a0 6) + 1))) ∧
  (a1 < (zLN (zKT 4 a0)) →
  zCL a0 = 1 ∧ zCL a0 = 1 ∧ zCL a0 = 1 ∧ zCL (zKT 4 a0) = 25 ∧ zI ((v a0 6) * (zLN (zKT 4 a0))) ∧ zI (((v a0 6) * (zLN (zKT 4 a0))) + a1) ∧ zCL a0 = 1 ∧ zCL (zKT 4 a0) = 25 ∧ (0 ≤ a1 ∧ a1 < zLN (zKT 4 a0)) ∧ zCL (a0 + 1) = 20 ∧ (0 ≤ (((v a0 6) * (zLN (zKT 4 a0))) + a1) ∧ (((v a0 6) * (zLN (zKT 4 a0))) + a1) < zLN (a0 + 1)) ∧ zI (a1 + 1) ∧ K 9 [(2, a0), (0, a1 + 1)] [] (zupd v (a0 + 1) (((v a0 6) * (zLN (zKT 4 a0))) + a1) (zSA (zKT 4 a0) a1)) 115))) : zx l G 1 (d + 1) h_Ki_addsOne k_Ki_addsOne 115 Q QX K 300 (k_Ki_addsOne.drop 9) [(2, a0), (0, a1)] [] v 115 := h
set_option maxRecDepth 100000 in
theorem sg_Ki_itemOf_0 {l : Launch} {G : zG} {d : Nat} {Q : Int → zH → Prop} {QX : Nat → zH → Prop} {K : Nat → List zV → List zV → zH → Nat → Prop} {a0 a1 : Int} {v : zH} (h : K 2 [(2, a0), (0, a1), (0, 0)] [] v 115) : zx l G 1 (d + 1) h_Ki_itemOf k_Ki_itemOf 115 Q QX K 300 (k_Ki_itemOf.drop 0) [(2, a0), (0, a1), (3, 0)] [] v 115 := h
set_option maxRecDepth 100000 in
theorem sg_Ki_itemOf_2 {l : Launch} {G : zG} {d : Nat} {Q : Int → zH → Prop} {QX : Nat → zH → Prop} {K : Nat → List zV → List zV → zH → Nat → Prop} {a0 a1 a2 : Int} {v : zH} (h : zCL a0 = 1 ∧ zCL (zKT 1 a0) = 26 ∧ zC l G 1 d h_Str_length [(2, zKT 1 a0)] v 115 (fun r1 v1 =>
  ((r1 ≤ a2 →
  Q ((-1)) v1) ∧
  (a2 < r1 →
  zCL a0 = 1 ∧ zCL (zKT 1 a0) = 26 ∧ zC l G 1 d h_Str_charAt [(2, zKT 1 a0), (0, a2)] v1 115 (fun r2 v2 =>
    ((¬ r2 = a1 →
    zI (a2 + 1) ∧ K 2 [(2, a0), (0, a1), (0, a2 + 1)] [] v2 115) ∧
    (r2 = a1 →
    Q a2 v2))))))) : zx l G 1 (d + 1) h_Ki_itemOf k_Ki_itemOf 115 Q QX K 300 (k_Ki_itemOf.drop 2) [(2, a0), (0, a1), (0, a2)] [] v 115 := h
set_option maxRecDepth 100000 in
theorem sg_Ki_tells_0 {l : Launch} {G : zG} {d : Nat} {Q : Int → zH → Prop} {QX : Nat → zH → Prop} {K : Nat → List zV → List zV → zH → Nat → Prop} {a0 a1 a2 : Int} {v : zH} (h : zCL a0 = 1 ∧ (((v a0 6) = 0 →
  ((0 : Int) = 0 ∨ (0 : Int) = 1) ∧ Q 0 v) ∧
  (¬ (v a0 6) = 0 →
  ((a1 < 0 →
    ((0 : Int) = 0 ∨ (0 : Int) = 1) ∧ Q 0 v) ∧
    (0 ≤ a1 →
    zCL a0 = 1 ∧ zCL (zKT 4 a0) = 25 ∧ (((zLN (zKT 4 a0)) ≤ a1 →
      ((0 : Int) = 0 ∨ (0 : Int) = 1) ∧ Q 0 v) ∧
      (a1 < (zLN (zKT 4 a0)) →
      zCL a0 = 1 ∧ zCL (zKT 2 a0) = 25 ∧ (0 ≤ a1 ∧ a1 < zLN (zKT 2 a0)) ∧ ((a2 < (zSA (zKT 2 a0) a1) →
        ((0 : Int) = 0 ∨ (0 : Int) = 1) ∧ Q 0 v) ∧
        ((zSA (zKT 2 a0) a1) ≤ a2 →
        zCL a0 = 1 ∧ zCL (zKT 3 a0) = 25 ∧ (0 ≤ a1 ∧ a1 < zLN (zKT 3 a0)) ∧ ((a2 ≤ (zSA (zKT 3 a0) a1) →
          zCL a0 = 1 ∧ zCL a0 = 1 ∧ zI ((v a0 6) - 1) ∧ zCL a0 = 1 ∧ zCL (zKT 4 a0) = 25 ∧ zI (((v a0 6) - 1) * (zLN (zKT 4 a0))) ∧ zI ((((v a0 6) - 1) * (zLN (zKT 4 a0))) + a1) ∧ zCL (a0 + 1) = 20 ∧ (0 ≤ ((((v a0 6) - 1) * (zLN (zKT 4 a0))) + a1) ∧ ((((v a0 6) - 1) * (zLN (zKT 4 a0))) + a1) < zLN (a0 + 1)) ∧ ((1 : Int) = 0 ∨ (1 : Int) = 1) ∧ Q 1 (zupd v (a0 + 1) ((((v a0 6) - 1) * (zLN (zKT 4 a0))) + a1) a2)) ∧
          ((zSA (zKT 3 a0) a1) < a2 →
          ((0 : Int) = 0 ∨ (0 : Int) = 1) ∧ Q 0 v))))))))))) : zx l G 1 (d + 1) h_Ki_tells k_Ki_tells 115 Q QX K 300 (k_Ki_tells.drop 0) [(2, a0), (0, a1), (0, a2)] [] v 115 := h
set_option maxRecDepth 100000 in
theorem sg_Wa_clear_0 {l : Launch} {G : zG} {d : Nat} {Q : Int → zH → Prop} {QX : Nat → zH → Prop} {K : Nat → List zV → List zV → zH → Nat → Prop} {a0 : Int} {v : zH} (h : zCL a0 = 8 ∧ zCL (a0 + 1) = 1 ∧ zCL a0 = 8 ∧ zCL (a0 + 3) = 1 ∧ zCL a0 = 8 ∧ zCL (a0 + 5) = 1 ∧ zCL a0 = 8 ∧ zCL a0 = 8 ∧ zCL a0 = 8 ∧ Q 0 (zupd (zupd (zupd (zupd (zupd (zupd v (a0 + 1) 6 0) (a0 + 3) 6 0) (a0 + 5) 6 0) a0 9 0) a0 10 0) a0 11 0)) : zx l G 1 (d + 1) h_Wa_clear k_Wa_clear 115 Q QX K 300 (k_Wa_clear.drop 0) [(2, a0)] [] v 115 := h
set_option maxRecDepth 100000 in
theorem sg_Wa_stands_0 {l : Launch} {G : zG} {d : Nat} {Q : Int → zH → Prop} {QX : Nat → zH → Prop} {K : Nat → List zV → List zV → zH → Nat → Prop} {a0 : Int} {v : zH} (h : zCL a0 = 8 ∧ zCL (a0 + 1) = 1 ∧ (((v (a0 + 1) 6) = 0 →
  ((0 : Int) = 0 ∨ (0 : Int) = 1) ∧ Q 0 v) ∧
  (¬ (v (a0 + 1) 6) = 0 →
  zCL a0 = 8 ∧ ((¬ (v a0 9) = 0 →
    K 11 [(2, a0), (0, 0), (3, 0)] [] v 115) ∧
    ((v a0 9) = 0 →
    ((0 : Int) = 0 ∨ (0 : Int) = 1) ∧ Q 0 v))))) : zx l G 1 (d + 1) h_Wa_stands k_Wa_stands 115 Q QX K 300 (k_Wa_stands.drop 0) [(2, a0), (3, 0), (3, 0)] [] v 115 := h
set_option maxRecDepth 100000 in
theorem sg_Wa_stands_11 {l : Launch} {G : zG} {d : Nat} {Q : Int → zH → Prop} {QX : Nat → zH → Prop} {K : Nat → List zV → List zV → zH → Nat → Prop} {a0 a1 : Int} {v : zH} (h : zCL a0 = 8 ∧ (((v a0 9) ≤ a1 →
  K 54 [(2, a0), (0, 0), (3, 0)] [] v 115) ∧
  (a1 < (v a0 9) →
  zCL a0 = 8 ∧ zCL (a0 + 8) = 20 ∧ (0 ≤ a1 ∧ a1 < zLN (a0 + 8)) ∧ zCL a0 = 8 ∧ zCL (a0 + 8) = 20 ∧ (0 ≤ (0 : Int) ∧ 0 < zLN (a0 + 8)) ∧ (((v (a0 + 8) a1) = (v (a0 + 8) 0) →
    K 28 [(2, a0), (0, a1), (0, 0)] [] v 115) ∧
    (¬ (v (a0 + 8) a1) = (v (a0 + 8) 0) →
    ((0 : Int) = 0 ∨ (0 : Int) = 1) ∧ Q 0 v))))) : zx l G 1 (d + 1) h_Wa_stands k_Wa_stands 115 Q QX K 300 (k_Wa_stands.drop 11) [(2, a0), (0, a1), (3, 0)] [] v 115 := h
set_option maxRecDepth 100000 in
theorem sg_Wa_stands_28 {l : Launch} {G : zG} {d : Nat} {Q : Int → zH → Prop} {QX : Nat → zH → Prop} {K : Nat → List zV → List zV → zH → Nat → Prop} {a0 a1 a2 : Int} {v : zH} (h : zCL a0 = 8 ∧ zCL (a0 + 8) = 20 ∧ (0 ≤ a1 ∧ a1 < zLN (a0 + 8)) ∧ (((v (a0 + 8) a1) ≤ a2 →
  zI (a1 + 1) ∧ K 11 [(2, a0), (0, a1 + 1), (3, 0)] [] v 115) ∧
  (a2 < (v (a0 + 8) a1) →
  zCL a0 = 8 ∧ zI (a1 * 6) ∧ zI ((a1 * 6) + a2) ∧ zCL (a0 + 7) = 20 ∧ (0 ≤ ((a1 * 6) + a2) ∧ ((a1 * 6) + a2) < zLN (a0 + 7)) ∧ zCL a0 = 8 ∧ zCL (a0 + 1) = 1 ∧ (((v (a0 + 7) ((a1 * 6) + a2)) < (v (a0 + 1) 6) →
    zI (a2 + 1) ∧ K 28 [(2, a0), (0, a1), (0, a2 + 1)] [] v 115) ∧
    ((v (a0 + 1) 6) ≤ (v (a0 + 7) ((a1 * 6) + a2)) →
    ((0 : Int) = 0 ∨ (0 : Int) = 1) ∧ Q 0 v))))) : zx l G 1 (d + 1) h_Wa_stands k_Wa_stands 115 Q QX K 300 (k_Wa_stands.drop 28) [(2, a0), (0, a1), (0, a2)] [] v 115 := h
set_option maxRecDepth 100000 in
theorem sg_Wa_stands_54 {l : Launch} {G : zG} {d : Nat} {Q : Int → zH → Prop} {QX : Nat → zH → Prop} {K : Nat → List zV → List zV → zH → Nat → Prop} {a0 a1 : Int} {v : zH} (h : zCL a0 = 8 ∧ zCL (a0 + 3) = 1 ∧ (((v (a0 + 3) 6) ≤ a1 →
  ((1 : Int) = 0 ∨ (1 : Int) = 1) ∧ Q 1 v) ∧
  (a1 < (v (a0 + 3) 6) →
  zCL a0 = 8 ∧ zCL (a0 + 3) = 1 ∧ zC l G 1 d h_Ki_number [(2, a0 + 3), (0, a1), (0, 0)] v 115 (fun r1 v1 =>
    zCL a0 = 8 ∧ (((v1 a0 9) ≤ r1 →
    ((0 : Int) = 0 ∨ (0 : Int) = 1) ∧ Q 0 v1) ∧
    (r1 < (v1 a0 9) →
    zCL a0 = 8 ∧ zCL (a0 + 3) = 1 ∧ zC l G 1 d h_Ki_number [(2, a0 + 3), (0, a1), (0, 1)] v1 115 (fun r2 v2 =>
      zCL a0 = 8 ∧ zCL (a0 + 8) = 20 ∧ (0 ≤ (0 : Int) ∧ 0 < zLN (a0 + 8)) ∧ ((r2 < (v2 (a0 + 8) 0) →
      zI (a1 + 1) ∧ K 54 [(2, a0), (0, a1 + 1), (3, 0)] [] v2 115) ∧
      ((v2 (a0 + 8) 0) ≤ r2 →
      ((0 : Int) = 0 ∨ (0 : Int) = 1) ∧ Q 0 v2))))))))) : zx l G 1 (d + 1) h_Wa_stands k_Wa_stands 115 Q QX K 300 (k_Wa_stands.drop 54) [(2, a0), (0, a1), (3, 0)] [] v 115 := h
set_option maxRecDepth 100000 in
theorem sg_Wa_lay_0 {l : Launch} {G : zG} {d : Nat} {Q : Int → zH → Prop} {QX : Nat → zH → Prop} {K : Nat → List zV → List zV → zH → Nat → Prop} {a0 : Int} {v : zH} (h : zCL a0 = 8 ∧ zCL (a0 + 8) = 20 ∧ (0 ≤ (0 : Int) ∧ 0 < zLN (a0 + 8)) ∧ zCL a0 = 8 ∧ zCL a0 = 8 ∧ zCL a0 = 8 ∧ zI (((zupd v a0 10 (v (a0 + 8) 0)) a0 9) * ((zupd v a0 10 (v (a0 + 8) 0)) a0 10)) ∧ zCL a0 = 8 ∧ K 15 [(2, a0), (0, 0), (3, 0), (3, 0)] [] (zupd (zupd v a0 10 (v (a0 + 8) 0)) a0 11 (((zupd v a0 10 (v (a0 + 8) 0)) a0 9) * ((zupd v a0 10 (v (a0 + 8) 0)) a0 10))) 115) : zx l G 1 (d + 1) h_Wa_lay k_Wa_lay 115 Q QX K 300 (k_Wa_lay.drop 0) [(2, a0), (3, 0), (3, 0), (3, 0)] [] v 115 := h
set_option maxRecDepth 100000 in
theorem sg_Wa_lay_15 {l : Launch} {G : zG} {d : Nat} {Q : Int → zH → Prop} {QX : Nat → zH → Prop} {K : Nat → List zV → List zV → zH → Nat → Prop} {a0 a1 : Int} {v : zH} (h : zCL a0 = 8 ∧ (((v a0 9) ≤ a1 →
  Q 0 v) ∧
  (a1 < (v a0 9) →
  K 21 [(2, a0), (0, a1), (0, 0), (3, 0)] [] v 115))) : zx l G 1 (d + 1) h_Wa_lay k_Wa_lay 115 Q QX K 300 (k_Wa_lay.drop 15) [(2, a0), (0, a1), (3, 0), (3, 0)] [] v 115 := h
set_option maxRecDepth 100000 in
theorem sg_Wa_lay_21 {l : Launch} {G : zG} {d : Nat} {Q : Int → zH → Prop} {QX : Nat → zH → Prop} {K : Nat → List zV → List zV → zH → Nat → Prop} {a0 a1 a2 : Int} {v : zH} (h : zCL a0 = 8 ∧ (((v a0 10) ≤ a2 →
  zI (a1 + 1) ∧ K 15 [(2, a0), (0, a1 + 1), (3, 0), (3, 0)] [] v 115) ∧
  (a2 < (v a0 10) →
  zCL a0 = 8 ∧ zI (a1 * (v a0 10)) ∧ zI ((a1 * (v a0 10)) + a2) ∧ zCL a0 = 8 ∧ zCL (a0 + 9) = 20 ∧ (0 ≤ ((a1 * (v a0 10)) + a2) ∧ ((a1 * (v a0 10)) + a2) < zLN (a0 + 9)) ∧ zCL a0 = 8 ∧ zCL (a0 + 10) = 20 ∧ (0 ≤ ((a1 * (v a0 10)) + a2) ∧ ((a1 * (v a0 10)) + a2) < zLN (a0 + 10)) ∧ zCL a0 = 8 ∧ zCL a0 = 8 ∧ zI (a1 * 6) ∧ zI ((a1 * 6) + a2) ∧ zCL (a0 + 7) = 20 ∧ (0 ≤ ((a1 * 6) + a2) ∧ ((a1 * 6) + a2) < zLN (a0 + 7)) ∧ zCL (a0 + 11) = 20 ∧ (0 ≤ ((a1 * (v a0 10)) + a2) ∧ ((a1 * (v a0 10)) + a2) < zLN (a0 + 11)) ∧ zCL a0 = 8 ∧ zI (((a1 * (v a0 10)) + a2) * 4) ∧ ((a1 ≤ 0 →
    K 67 [(2, a0), (0, a1), (0, a2), (0, (a1 * (v a0 10)) + a2)] [(0, (-1)), (0, ((a1 * (v a0 10)) + a2) * 4), (2, a0 + 12)] (zupd (zupd (zupd v (a0 + 9) ((a1 * (v a0 10)) + a2) a1) (a0 + 10) ((a1 * (v a0 10)) + a2) a2) (a0 + 11) ((a1 * (v a0 10)) + a2) ((zupd (zupd v (a0 + 9) ((a1 * (v a0 10)) + a2) a1) (a0 + 10) ((a1 * (v a0 10)) + a2) a2) (a0 + 7) ((a1 * 6) + a2))) 115) ∧
    (0 < a1 →
    zCL a0 = 8 ∧ zI (((a1 * (v a0 10)) + a2) - ((zupd (zupd (zupd v (a0 + 9) ((a1 * (v a0 10)) + a2) a1) (a0 + 10) ((a1 * (v a0 10)) + a2) a2) (a0 + 11) ((a1 * (v a0 10)) + a2) ((zupd (zupd v (a0 + 9) ((a1 * (v a0 10)) + a2) a1) (a0 + 10) ((a1 * (v a0 10)) + a2) a2) (a0 + 7) ((a1 * 6) + a2))) a0 10)) ∧ K 67 [(2, a0), (0, a1), (0, a2), (0, (a1 * (v a0 10)) + a2)] [(0, ((a1 * (v a0 10)) + a2) - ((zupd (zupd (zupd v (a0 + 9) ((a1 * (v a0 10)) + a2) a1) (a0 + 10) ((a1 * (v a0 10)) + a2) a2) (a0 + 11) ((a1 * (v a0 10)) + a2) ((zupd (zupd v (a0 + 9) ((a1 * (v a0 10)) + a2) a1) (a0 + 10) ((a1 * (v a0 10)) + a2) a2) (a0 + 7) ((a1 * 6) + a2))) a0 10)), (0, ((a1 * (v a0 10)) + a2) * 4), (2, a0 + 12)] (zupd (zupd (zupd v (a0 + 9) ((a1 * (v a0 10)) + a2) a1) (a0 + 10) ((a1 * (v a0 10)) + a2) a2) (a0 + 11) ((a1 * (v a0 10)) + a2) ((zupd (zupd v (a0 + 9) ((a1 * (v a0 10)) + a2) a1) (a0 + 10) ((a1 * (v a0 10)) + a2) a2) (a0 + 7) ((a1 * 6) + a2))) 115))))) : zx l G 1 (d + 1) h_Wa_lay k_Wa_lay 115 Q QX K 300 (k_Wa_lay.drop 21) [(2, a0), (0, a1), (0, a2), (3, 0)] [] v 115 := h
set_option maxRecDepth 100000 in
theorem sg_Wa_lay_67 {l : Launch} {G : zG} {d : Nat} {Q : Int → zH → Prop} {QX : Nat → zH → Prop} {K : Nat → List zV → List zV → zH → Nat → Prop} {a0 a1 a2 a3 s0 s1 s2 : Int} {v : zH} (h : zCL s0 = 20 ∧ (0 ≤ s1 ∧ s1 < zLN s0) ∧ zCL a0 = 8 ∧ zI (a3 * 4) ∧ zI ((a3 * 4) + 1) ∧ zCL a0 = 8 ∧ zI (((zupd v s0 s1 s2) a0 9) - 1) ∧ (((((zupd v s0 s1 s2) a0 9) - 1) ≤ a1 →
  K 87 [(2, a0), (0, a1), (0, a2), (0, a3)] [(0, (-1)), (0, (a3 * 4) + 1), (2, a0 + 12)] (zupd v s0 s1 s2) 115) ∧
  (a1 < (((zupd v s0 s1 s2) a0 9) - 1) →
  zCL a0 = 8 ∧ zI (a3 + ((zupd v s0 s1 s2) a0 10)) ∧ K 87 [(2, a0), (0, a1), (0, a2), (0, a3)] [(0, a3 + ((zupd v s0 s1 s2) a0 10)), (0, (a3 * 4) + 1), (2, a0 + 12)] (zupd v s0 s1 s2) 115))) : zx l G 1 (d + 1) h_Wa_lay k_Wa_lay 115 Q QX K 300 (k_Wa_lay.drop 67) [(2, a0), (0, a1), (0, a2), (0, a3)] [(0, s2), (0, s1), (2, s0)] v 115 := h
set_option maxRecDepth 100000 in
theorem sg_Wa_lay_87 {l : Launch} {G : zG} {d : Nat} {Q : Int → zH → Prop} {QX : Nat → zH → Prop} {K : Nat → List zV → List zV → zH → Nat → Prop} {a0 a1 a2 a3 s0 s1 s2 : Int} {v : zH} (h : zCL s0 = 20 ∧ (0 ≤ s1 ∧ s1 < zLN s0) ∧ zCL a0 = 8 ∧ zI (a3 * 4) ∧ zI ((a3 * 4) + 2) ∧ ((a2 ≤ 0 →
  K 102 [(2, a0), (0, a1), (0, a2), (0, a3)] [(0, (-1)), (0, (a3 * 4) + 2), (2, a0 + 12)] (zupd v s0 s1 s2) 115) ∧
  (0 < a2 →
  zI (a3 - 1) ∧ K 102 [(2, a0), (0, a1), (0, a2), (0, a3)] [(0, a3 - 1), (0, (a3 * 4) + 2), (2, a0 + 12)] (zupd v s0 s1 s2) 115))) : zx l G 1 (d + 1) h_Wa_lay k_Wa_lay 115 Q QX K 300 (k_Wa_lay.drop 87) [(2, a0), (0, a1), (0, a2), (0, a3)] [(0, s2), (0, s1), (2, s0)] v 115 := h
set_option maxRecDepth 100000 in
theorem sg_Wa_lay_102 {l : Launch} {G : zG} {d : Nat} {Q : Int → zH → Prop} {QX : Nat → zH → Prop} {K : Nat → List zV → List zV → zH → Nat → Prop} {a0 a1 a2 a3 s0 s1 s2 : Int} {v : zH} (h : zCL s0 = 20 ∧ (0 ≤ s1 ∧ s1 < zLN s0) ∧ zCL a0 = 8 ∧ zI (a3 * 4) ∧ zI ((a3 * 4) + 3) ∧ zCL a0 = 8 ∧ zI (((zupd v s0 s1 s2) a0 10) - 1) ∧ (((((zupd v s0 s1 s2) a0 10) - 1) ≤ a2 →
  K 121 [(2, a0), (0, a1), (0, a2), (3, 0)] [(0, (-1)), (0, (a3 * 4) + 3), (2, a0 + 12)] (zupd v s0 s1 s2) 115) ∧
  (a2 < (((zupd v s0 s1 s2) a0 10) - 1) →
  zI (a3 + 1) ∧ K 121 [(2, a0), (0, a1), (0, a2), (3, 0)] [(0, a3 + 1), (0, (a3 * 4) + 3), (2, a0 + 12)] (zupd v s0 s1 s2) 115))) : zx l G 1 (d + 1) h_Wa_lay k_Wa_lay 115 Q QX K 300 (k_Wa_lay.drop 102) [(2, a0), (0, a1), (0, a2), (0, a3)] [(0, s2), (0, s1), (2, s0)] v 115 := h
set_option maxRecDepth 100000 in
theorem sg_Wa_lay_121 {l : Launch} {G : zG} {d : Nat} {Q : Int → zH → Prop} {QX : Nat → zH → Prop} {K : Nat → List zV → List zV → zH → Nat → Prop} {a0 a1 a2 s0 s1 s2 : Int} {v : zH} (h : zCL s0 = 20 ∧ (0 ≤ s1 ∧ s1 < zLN s0) ∧ zI (a2 + 1) ∧ K 21 [(2, a0), (0, a1), (0, a2 + 1), (3, 0)] [] (zupd v s0 s1 s2) 115) : zx l G 1 (d + 1) h_Wa_lay k_Wa_lay 115 Q QX K 300 (k_Wa_lay.drop 121) [(2, a0), (0, a1), (0, a2), (3, 0)] [(0, s2), (0, s1), (2, s0)] v 115 := h
set_option maxRecDepth 100000 in
theorem sg_Wa_indexOf_0 {l : Launch} {G : zG} {d : Nat} {Q : Int → zH → Prop} {QX : Nat → zH → Prop} {K : Nat → List zV → List zV → zH → Nat → Prop} {a0 a1 : Int} {v : zH} (h : ((a1 < 0 →
  Q ((-1)) v) ∧
  (0 ≤ a1 →
  zCL a0 = 8 ∧ (((v a0 9) ≤ (a1.tdiv 10) →
    Q ((-1)) v) ∧
    ((a1.tdiv 10) < (v a0 9) →
    zCL a0 = 8 ∧ (((a1.tmod 10) < (v a0 10) →
      zCL a0 = 8 ∧ zI ((a1.tdiv 10) * (v a0 10)) ∧ zI (((a1.tdiv 10) * (v a0 10)) + (a1.tmod 10)) ∧ Q (((a1.tdiv 10) * (v a0 10)) + (a1.tmod 10)) v) ∧
      ((v a0 10) ≤ (a1.tmod 10) →
      Q ((-1)) v))))))) : zx l G 1 (d + 1) h_Wa_indexOf k_Wa_indexOf 115 Q QX K 300 (k_Wa_indexOf.drop 0) [(2, a0), (0, a1)] [] v 115 := h
set_option maxRecDepth 100000 in
theorem sg_Wa_nameOf_0 {l : Launch} {G : zG} {d : Nat} {Q : Int → zH → Prop} {QX : Nat → zH → Prop} {K : Nat → List zV → List zV → zH → Nat → Prop} {a0 a1 : Int} {v : zH} (h : ((a1 < 0 →
  Q ((-1)) v) ∧
  (0 ≤ a1 →
  zCL a0 = 8 ∧ ((a1 < (v a0 11) →
    zCL a0 = 8 ∧ zCL (a0 + 9) = 20 ∧ (0 ≤ a1 ∧ a1 < zLN (a0 + 9)) ∧ zI (10 * (v (a0 + 9) a1)) ∧ zCL a0 = 8 ∧ zCL (a0 + 10) = 20 ∧ (0 ≤ a1 ∧ a1 < zLN (a0 + 10)) ∧ zI ((10 * (v (a0 + 9) a1)) + (v (a0 + 10) a1)) ∧ Q ((10 * (v (a0 + 9) a1)) + (v (a0 + 10) a1)) v) ∧
    ((v a0 11) ≤ a1 →
    Q ((-1)) v))))) : zx l G 1 (d + 1) h_Wa_nameOf k_Wa_nameOf 115 Q QX K 300 (k_Wa_nameOf.drop 0) [(2, a0), (0, a1)] [] v 115 := h
set_option maxRecDepth 100000 in
theorem sg_Wa_areBeside_0 {l : Launch} {G : zG} {d : Nat} {Q : Int → zH → Prop} {QX : Nat → zH → Prop} {K : Nat → List zV → List zV → zH → Nat → Prop} {a0 a1 a2 : Int} {v : zH} (h : ((a1 < 0 →
  ((0 : Int) = 0 ∨ (0 : Int) = 1) ∧ Q 0 v) ∧
  (0 ≤ a1 →
  zCL a0 = 8 ∧ ((a1 < (v a0 11) →
    K 10 [(2, a0), (0, a1), (0, a2), (0, 0)] [] v 115) ∧
    ((v a0 11) ≤ a1 →
    ((0 : Int) = 0 ∨ (0 : Int) = 1) ∧ Q 0 v))))) : zx l G 1 (d + 1) h_Wa_areBeside k_Wa_areBeside 115 Q QX K 300 (k_Wa_areBeside.drop 0) [(2, a0), (0, a1), (0, a2), (3, 0)] [] v 115 := h
set_option maxRecDepth 100000 in
theorem sg_Wa_areBeside_10 {l : Launch} {G : zG} {d : Nat} {Q : Int → zH → Prop} {QX : Nat → zH → Prop} {K : Nat → List zV → List zV → zH → Nat → Prop} {a0 a1 a2 a3 : Int} {v : zH} (h : ((4 ≤ a3 →
  ((0 : Int) = 0 ∨ (0 : Int) = 1) ∧ Q 0 v) ∧
  (a3 < 4 →
  zCL a0 = 8 ∧ zI (a1 * 4) ∧ zI ((a1 * 4) + a3) ∧ zCL (a0 + 12) = 20 ∧ (0 ≤ ((a1 * 4) + a3) ∧ ((a1 * 4) + a3) < zLN (a0 + 12)) ∧ ((¬ (v (a0 + 12) ((a1 * 4) + a3)) = a2 →
    zI (a3 + 1) ∧ K 10 [(2, a0), (0, a1), (0, a2), (0, a3 + 1)] [] v 115) ∧
    ((v (a0 + 12) ((a1 * 4) + a3)) = a2 →
    ((1 : Int) = 0 ∨ (1 : Int) = 1) ∧ Q 1 v))))) : zx l G 1 (d + 1) h_Wa_areBeside k_Wa_areBeside 115 Q QX K 300 (k_Wa_areBeside.drop 10) [(2, a0), (0, a1), (0, a2), (0, a3)] [] v 115 := h
set_option maxRecDepth 100000 in
theorem sg_WR_faultOf_0 {l : Launch} {G : zG} {d : Nat} {Q : Int → zH → Prop} {QX : Nat → zH → Prop} {K : Nat → List zV → List zV → zH → Nat → Prop} {a0 a1 : Int} {v : zH} (h : zCL a0 = 9 ∧ zCL a1 = 8 ∧ zC l G 1 d h_Wa_clear [(2, a1)] (zupd v a0 1 0) 115 (fun _ v1 =>
  K 7 [(2, a0), (2, a1), (0, 0)] [] v1 115)) : zx l G 1 (d + 1) h_WR_faultOf k_WR_faultOf 115 Q QX K 300 (k_WR_faultOf.drop 0) [(2, a0), (2, a1), (3, 0)] [] v 115 := h
set_option maxRecDepth 100000 in
theorem sg_WR_faultOf_7 {l : Launch} {G : zG} {d : Nat} {Q : Int → zH → Prop} {QX : Nat → zH → Prop} {K : Nat → List zV → List zV → zH → Nat → Prop} {a0 a1 a2 : Int} {v : zH} (h : zCL a0 = 9 ∧ zCL (a0 + (-2)) = 6 ∧ (((v (a0 + (-2)) 1) < a2 →
  zCL a0 = 9 ∧ zC l G 1 d h_WR_sign [(2, a0)] v 115 (fun r1 v1 =>
    ((¬ r1 = ((-1)) →
    zCL a0 = 9 ∧ Q (v1 a0 1) v1) ∧
    (r1 = ((-1)) →
    zCL a1 = 8 ∧ zC l G 1 d h_Wa_stands [(2, a1)] v1 115 (fun r2 v2 =>
      ((r2 = 0 →
      zCL a0 = 9 ∧ Q (v2 a0 1) v2) ∧
      (¬ r2 = 0 →
      Q ((-1)) v2))))))) ∧
  (a2 ≤ (v (a0 + (-2)) 1) →
  zCL a0 = 9 ∧ zC l G 1 d h_WR_clause [(2, a0), (2, a1)] v 115 (fun r3 v3 =>
    ((¬ r3 = 0 →
    zCL a0 = 9 ∧ zC l G 1 d h_WR_takes [(2, a0), (0, 59)] v3 115 (fun r4 v4 =>
      ((¬ r4 = 0 →
      zI (a2 + 1) ∧ K 7 [(2, a0), (2, a1), (0, a2 + 1)] [] v4 115) ∧
      (r4 = 0 →
      zCL a0 = 9 ∧ zC l G 1 d h_WR_sign [(2, a0)] v4 115 (fun r5 v5 =>
        ((¬ r5 = ((-1)) →
        zCL a0 = 9 ∧ Q (v5 a0 1) v5) ∧
        (r5 = ((-1)) →
        zCL a1 = 8 ∧ zC l G 1 d h_Wa_stands [(2, a1)] v5 115 (fun r6 v6 =>
          ((r6 = 0 →
          zCL a0 = 9 ∧ Q (v6 a0 1) v6) ∧
          (¬ r6 = 0 →
          Q ((-1)) v6)))))))))) ∧
    (r3 = 0 →
    zCL a0 = 9 ∧ Q (v3 a0 1) v3)))))) : zx l G 1 (d + 1) h_WR_faultOf k_WR_faultOf 115 Q QX K 300 (k_WR_faultOf.drop 7) [(2, a0), (2, a1), (0, a2)] [] v 115 := h
set_option maxRecDepth 100000 in
theorem sg_WR_clause_0 {l : Launch} {G : zG} {d : Nat} {Q : Int → zH → Prop} {QX : Nat → zH → Prop} {K : Nat → List zV → List zV → zH → Nat → Prop} {a0 a1 : Int} {v : zH} (h : zCL a0 = 9 ∧ zC l G 1 d h_WR_sign [(2, a0)] v 115 (fun r1 v1 =>
  ((r1 < 108 → ((0 : Int) = 0 ∨ (0 : Int) = 1) ∧ Q 0 v1) ∧
  (r1 = 108 → zCL a0 = 9 ∧ zC l G 1 d h_WR_row [(2, a0), (2, a1)] v1 115 (fun r2 v2 =>
    (r2 = 0 ∨ r2 = 1) ∧ Q r2 v2)) ∧
  (r1 = 109 → ((0 : Int) = 0 ∨ (0 : Int) = 1) ∧ Q 0 v1) ∧
  (r1 = 110 → zCL a1 = 8 ∧ zCL a0 = 9 ∧ zC l G 1 d h_WR_items [(2, a0), (2, a1 + 5)] v1 115 (fun r3 v3 =>
    (r3 = 0 ∨ r3 = 1) ∧ Q r3 v3)) ∧
  (r1 = 111 → zCL a1 = 8 ∧ zCL a0 = 9 ∧ zC l G 1 d h_WR_items [(2, a0), (2, a1 + 3)] v1 115 (fun r4 v4 =>
    (r4 = 0 ∨ r4 = 1) ∧ Q r4 v4)) ∧
  (r1 = 112 → ((0 : Int) = 0 ∨ (0 : Int) = 1) ∧ Q 0 v1) ∧
  (r1 = 113 → ((0 : Int) = 0 ∨ (0 : Int) = 1) ∧ Q 0 v1) ∧
  (r1 = 114 → ((0 : Int) = 0 ∨ (0 : Int) = 1) ∧ Q 0 v1) ∧
  (r1 = 115 → zCL a1 = 8 ∧ zCL a0 = 9 ∧ zC l G 1 d h_WR_items [(2, a0), (2, a1 + 1)] v1 115 (fun r5 v5 =>
    (r5 = 0 ∨ r5 = 1) ∧ Q r5 v5)) ∧
  (116 ≤ r1 → ((0 : Int) = 0 ∨ (0 : Int) = 1) ∧ Q 0 v1)))) : zx l G 1 (d + 1) h_WR_clause k_WR_clause 115 Q QX K 300 (k_WR_clause.drop 0) [(2, a0), (2, a1)] [] v 115 := h
set_option maxRecDepth 100000 in
theorem sg_WR_items_0 {l : Launch} {G : zG} {d : Nat} {Q : Int → zH → Prop} {QX : Nat → zH → Prop} {K : Nat → List zV → List zV → zH → Nat → Prop} {a0 a1 : Int} {v : zH} (h : zCL a1 = 1 ∧ zC l G 1 d h_Ki_addsOne [(2, a1)] v 115 (fun r1 v1 =>
  ((¬ r1 = 0 →
  zCL a0 = 9 ∧ zI ((v1 a0 1) + 1) ∧ zCL a0 = 9 ∧ K 15 [(2, a0), (2, a1), (0, 0), (0, 0), (3, 0), (3, 0)] [] (zupd v1 a0 1 ((v1 a0 1) + 1)) 115) ∧
  (r1 = 0 →
  ((0 : Int) = 0 ∨ (0 : Int) = 1) ∧ Q 0 v1)))) : zx l G 1 (d + 1) h_WR_items k_WR_items 115 Q QX K 300 (k_WR_items.drop 0) [(2, a0), (2, a1), (3, 0), (3, 0), (3, 0), (3, 0)] [] v 115 := h
set_option maxRecDepth 100000 in
theorem sg_WR_items_15 {l : Launch} {G : zG} {d : Nat} {Q : Int → zH → Prop} {QX : Nat → zH → Prop} {K : Nat → List zV → List zV → zH → Nat → Prop} {a0 a1 a2 a3 : Int} {v : zH} (h : zCL a0 = 9 ∧ zCL (a0 + (-2)) = 6 ∧ (((v (a0 + (-2)) 1) < a3 →
  ((1 : Int) = 0 ∨ (1 : Int) = 1) ∧ Q 1 v) ∧
  (a3 ≤ (v (a0 + (-2)) 1) →
  zCL a0 = 9 ∧ zC l G 1 d h_WR_sign [(2, a0)] v 115 (fun r1 v1 =>
    zCL a1 = 1 ∧ zC l G 1 d h_Ki_itemOf [(2, a1), (0, r1)] v1 115 (fun r2 v2 =>
    ((¬ r2 = ((-1)) →
    ((¬ (zand (zshr a2 r2) 1) = 1 →
      zCL a0 = 9 ∧ zI ((v2 a0 1) + 1) ∧ zCL a0 = 9 ∧ zCL a0 = 9 ∧ zC l G 1 d h_WR_digits [(2, a0), (0, 2)] (zupd v2 a0 1 ((v2 a0 1) + 1)) 115 (fun r3 v3 =>
        ((¬ r3 = ((-1)) →
        zCL a1 = 1 ∧ zC l G 1 d h_Ki_tells [(2, a1), (0, r2), (0, r3)] v3 115 (fun r4 v4 =>
          ((¬ r4 = 0 →
          zI (a3 + 1) ∧ K 15 [(2, a0), (2, a1), (0, zor a2 (zshl 1 r2)), (0, a3 + 1), (3, 0), (3, 0)] [] v4 115) ∧
          (r4 = 0 →
          zCL a0 = 9 ∧ zI ((v4 a0 1) - 1) ∧ zCL a0 = 9 ∧ ((0 : Int) = 0 ∨ (0 : Int) = 1) ∧ Q 0 (zupd v4 a0 1 ((v4 a0 1) - 1)))))) ∧
        (r3 = ((-1)) →
        ((0 : Int) = 0 ∨ (0 : Int) = 1) ∧ Q 0 v3)))) ∧
      ((zand (zshr a2 r2) 1) = 1 →
      ((0 : Int) = 0 ∨ (0 : Int) = 1) ∧ Q 0 v2))) ∧
    (r2 = ((-1)) →
    ((1 : Int) = 0 ∨ (1 : Int) = 1) ∧ Q 1 v2))))))) : zx l G 1 (d + 1) h_WR_items k_WR_items 115 Q QX K 300 (k_WR_items.drop 15) [(2, a0), (2, a1), (0, a2), (0, a3), (3, 0), (3, 0)] [] v 115 := h
set_option maxRecDepth 100000 in
theorem sg_WR_row_0 {l : Launch} {G : zG} {d : Nat} {Q : Int → zH → Prop} {QX : Nat → zH → Prop} {K : Nat → List zV → List zV → zH → Nat → Prop} {a0 a1 : Int} {v : zH} (h : zCL a1 = 8 ∧ ((¬ (v a1 9) = 4 →
  zCL a0 = 9 ∧ zI ((v a0 1) + 1) ∧ zCL a0 = 9 ∧ zCL a0 = 9 ∧ zC l G 1 d h_WR_sign [(2, a0)] (zupd v a0 1 ((v a0 1) + 1)) 115 (fun r1 v1 =>
    K 17 [(2, a0), (2, a1), (0, 0), (0, r1)] [] v1 115)) ∧
  ((v a1 9) = 4 →
  ((0 : Int) = 0 ∨ (0 : Int) = 1) ∧ Q 0 v))) : zx l G 1 (d + 1) h_WR_row k_WR_row 115 Q QX K 300 (k_WR_row.drop 0) [(2, a0), (2, a1), (3, 0), (3, 0)] [] v 115 := h
set_option maxRecDepth 100000 in
theorem sg_WR_row_17 {l : Launch} {G : zG} {d : Nat} {Q : Int → zH → Prop} {QX : Nat → zH → Prop} {K : Nat → List zV → List zV → zH → Nat → Prop} {a0 a1 a2 a3 : Int} {v : zH} (h : ((a3 < 65 →
  ((¬ a2 = 0 →
    zCL a1 = 8 ∧ zCL a1 = 8 ∧ zCL (a1 + 8) = 20 ∧ (0 ≤ (v a1 9) ∧ (v a1 9) < zLN (a1 + 8)) ∧ zCL a1 = 8 ∧ zI (((zupd v (a1 + 8) (v a1 9) a2) a1 9) + 1) ∧ zCL a1 = 8 ∧ ((1 : Int) = 0 ∨ (1 : Int) = 1) ∧ Q 1 (zupd (zupd v (a1 + 8) (v a1 9) a2) a1 9 (((zupd v (a1 + 8) (v a1 9) a2) a1 9) + 1))) ∧
    (a2 = 0 →
    ((0 : Int) = 0 ∨ (0 : Int) = 1) ∧ Q 0 v))) ∧
  (65 ≤ a3 →
  ((68 < a3 →
    ((¬ a2 = 0 →
      zCL a1 = 8 ∧ zCL a1 = 8 ∧ zCL (a1 + 8) = 20 ∧ (0 ≤ (v a1 9) ∧ (v a1 9) < zLN (a1 + 8)) ∧ zCL a1 = 8 ∧ zI (((zupd v (a1 + 8) (v a1 9) a2) a1 9) + 1) ∧ zCL a1 = 8 ∧ ((1 : Int) = 0 ∨ (1 : Int) = 1) ∧ Q 1 (zupd (zupd v (a1 + 8) (v a1 9) a2) a1 9 (((zupd v (a1 + 8) (v a1 9) a2) a1 9) + 1))) ∧
      (a2 = 0 →
      ((0 : Int) = 0 ∨ (0 : Int) = 1) ∧ Q 0 v))) ∧
    (a3 ≤ 68 →
    ((¬ a2 = 6 →
      zCL a1 = 8 ∧ zCL a1 = 8 ∧ zI ((v a1 9) * 6) ∧ zI (((v a1 9) * 6) + a2) ∧ zI (a3 - 65) ∧ zCL (a1 + 7) = 20 ∧ (0 ≤ (((v a1 9) * 6) + a2) ∧ (((v a1 9) * 6) + a2) < zLN (a1 + 7)) ∧ zI (a2 + 1) ∧ zCL a0 = 9 ∧ zI (((zupd v (a1 + 7) (((v a1 9) * 6) + a2) (a3 - 65)) a0 1) + 1) ∧ zCL a0 = 9 ∧ zCL a0 = 9 ∧ zC l G 1 d h_WR_sign [(2, a0)] (zupd (zupd v (a1 + 7) (((v a1 9) * 6) + a2) (a3 - 65)) a0 1 (((zupd v (a1 + 7) (((v a1 9) * 6) + a2) (a3 - 65)) a0 1) + 1)) 115 (fun r1 v1 =>
        K 17 [(2, a0), (2, a1), (0, a2 + 1), (0, r1)] [] v1 115)) ∧
      (a2 = 6 →
      ((0 : Int) = 0 ∨ (0 : Int) = 1) ∧ Q 0 v))))))) : zx l G 1 (d + 1) h_WR_row k_WR_row 115 Q QX K 300 (k_WR_row.drop 17) [(2, a0), (2, a1), (0, a2), (0, a3)] [] v 115 := h
set_option maxRecDepth 100000 in
theorem sg_La_clear_0 {l : Launch} {G : zG} {d : Nat} {Q : Int → zH → Prop} {QX : Nat → zH → Prop} {K : Nat → List zV → List zV → zH → Nat → Prop} {a0 : Int} {v : zH} (h : zCL a0 = 2 ∧ zCL a0 = 2 ∧ ((0 : Int) = 0 ∨ (0 : Int) = 1) ∧ Q 0 (zupd (zupd v a0 2 0) a0 3 0)) : zx l G 1 (d + 1) h_La_clear k_La_clear 115 Q QX K 300 (k_La_clear.drop 0) [(2, a0)] [] v 115 := h
set_option maxRecDepth 100000 in
theorem sg_La_addNumber_0 {l : Launch} {G : zG} {d : Nat} {Q : Int → zH → Prop} {QX : Nat → zH → Prop} {K : Nat → List zV → List zV → zH → Nat → Prop} {a0 a1 : Int} {v : zH} (h : zCL a0 = 2 ∧ zCL a0 = 2 ∧ (zCL (a0 + 1) = 20 ∨ zCL (a0 + 1) = 21) ∧ (((zLN (a0 + 1)) ≤ (v a0 2) →
  Q 0 v) ∧
  ((v a0 2) < (zLN (a0 + 1)) →
  zCL a0 = 2 ∧ zCL a0 = 2 ∧ zCL (a0 + 1) = 20 ∧ (0 ≤ (v a0 2) ∧ (v a0 2) < zLN (a0 + 1)) ∧ zCL a0 = 2 ∧ zI (((zupd v (a0 + 1) (v a0 2) a1) a0 2) + 1) ∧ zCL a0 = 2 ∧ Q 0 (zupd (zupd v (a0 + 1) (v a0 2) a1) a0 2 (((zupd v (a0 + 1) (v a0 2) a1) a0 2) + 1))))) : zx l G 1 (d + 1) h_La_addNumber k_La_addNumber 115 Q QX K 300 (k_La_addNumber.drop 0) [(2, a0), (0, a1)] [] v 115 := h
set_option maxRecDepth 100000 in
theorem sg_La_addSign_0 {l : Launch} {G : zG} {d : Nat} {Q : Int → zH → Prop} {QX : Nat → zH → Prop} {K : Nat → List zV → List zV → zH → Nat → Prop} {a0 a1 : Int} {v : zH} (h : zI (-a1) ∧ zCL a0 = 2 ∧ zC l G 1 d h_La_addNumber [(2, a0), (0, -a1)] v 115 (fun _ v1 =>
  ((¬ a1 = 100 →
  Q 0 v1) ∧
  (a1 = 100 →
  zCL a0 = 2 ∧ ((1 : Int) = 0 ∨ (1 : Int) = 1) ∧ Q 0 (zupd v1 a0 3 1))))) : zx l G 1 (d + 1) h_La_addSign k_La_addSign 115 Q QX K 300 (k_La_addSign.drop 0) [(2, a0), (0, a1)] [] v 115 := h
set_option maxRecDepth 100000 in
theorem sg_La_worth_0 {l : Launch} {G : zG} {d : Nat} {Q : Int → zH → Prop} {QX : Nat → zH → Prop} {K : Nat → List zV → List zV → zH → Nat → Prop} {a0 a1 a2 a3 a4 : Int} {v : zH} (h : K 6 [(2, a0), (0, a1), (0, a2), (0, a3), (0, a4), (0, 0), (0, 0), (0, 0), (3, 0)] [] v 115) : zx l G 1 (d + 1) h_La_worth k_La_worth 115 Q QX K 300 (k_La_worth.drop 0) [(2, a0), (0, a1), (0, a2), (0, a3), (0, a4), (3, 0), (3, 0), (3, 0), (3, 0)] [] v 115 := h
set_option maxRecDepth 100000 in
theorem sg_La_worth_6 {l : Launch} {G : zG} {d : Nat} {Q : Int → zH → Prop} {QX : Nat → zH → Prop} {K : Nat → List zV → List zV → zH → Nat → Prop} {a0 a1 a2 a3 a4 a5 a6 a7 : Int} {v : zH} (h : zCL a0 = 2 ∧ (((v a0 2) ≤ a7 →
  Q 0 v) ∧
  (a7 < (v a0 2) →
  ((a5 < 0 →
    Q 0 v) ∧
    (0 ≤ a5 →
    zCL a0 = 2 ∧ (zCL (a0 + 2) = 20 ∨ zCL (a0 + 2) = 21) ∧ zI ((zLN (a0 + 2)) - 1) ∧ ((((zLN (a0 + 2)) - 1) ≤ a5 →
      Q 0 v) ∧
      (a5 < ((zLN (a0 + 2)) - 1) →
      zCL a0 = 2 ∧ zCL (a0 + 1) = 20 ∧ (0 ≤ a7 ∧ a7 < zLN (a0 + 1)) ∧ zI (-(v (a0 + 1) a7)) ∧ ((a6 = 0 →
        (((-(v (a0 + 1) a7)) = 33 →
          zCL a0 = 2 ∧ zCL a0 = 2 ∧ zCL (a0 + 2) = 20 ∧ (0 ≤ a5 ∧ a5 < zLN (a0 + 2)) ∧ zI (1 - (v (a0 + 2) a5)) ∧ zCL (a0 + 2) = 20 ∧ (0 ≤ a5 ∧ a5 < zLN (a0 + 2)) ∧ zI (a7 + 1) ∧ K 6 [(2, a0), (0, a1), (0, a2), (0, a3), (0, a4), (0, a5), (0, a6), (0, a7 + 1), (3, 0)] [] (zupd v (a0 + 2) a5 (1 - (v (a0 + 2) a5))) 115) ∧
          (¬ (-(v (a0 + 1) a7)) = 33 → (((-(v (a0 + 1) a7)) = 59 →
          zCL a0 = 2 ∧ zCL (a0 + 2) = 20 ∧ (0 ≤ a5 ∧ a5 < zLN (a0 + 2)) ∧ Q (v (a0 + 2) a5) v) ∧
          (¬ (-(v (a0 + 1) a7)) = 59 → (((-(v (a0 + 1) a7)) = 63 →
          zCL a0 = 2 ∧ zCL (a0 + 2) = 20 ∧ (0 ≤ a5 ∧ a5 < zLN (a0 + 2)) ∧ ((¬ (v (a0 + 2) a5) = 0 →
            zI (a5 + (-1)) ∧ zI (a7 + 1) ∧ K 6 [(2, a0), (0, a1), (0, a2), (0, a3), (0, a4), (0, a5 + (-1)), (0, 0), (0, a7 + 1), (3, 0)] [] v 115) ∧
            ((v (a0 + 2) a5) = 0 →
            zI (a5 + (-1)) ∧ zI (a7 + 1) ∧ K 6 [(2, a0), (0, a1), (0, a2), (0, a3), (0, a4), (0, a5 + (-1)), (0, 1), (0, a7 + 1), (3, 0)] [] v 115))) ∧
          (¬ (-(v (a0 + 1) a7)) = 63 → (((-(v (a0 + 1) a7)) = 99 →
          zCL a0 = 2 ∧ zI (a5 + 1) ∧ zCL (a0 + 2) = 20 ∧ (0 ≤ (a5 + 1) ∧ (a5 + 1) < zLN (a0 + 2)) ∧ zI (a7 + 1) ∧ K 6 [(2, a0), (0, a1), (0, a2), (0, a3), (0, a4), (0, a5 + 1), (0, a6), (0, a7 + 1), (3, 0)] [] (zupd v (a0 + 2) (a5 + 1) a3) 115) ∧
          (¬ (-(v (a0 + 1) a7)) = 99 → (((-(v (a0 + 1) a7)) = 100 →
          zCL a0 = 2 ∧ zI (a5 + 1) ∧ zCL (a0 + 2) = 20 ∧ (0 ≤ (a5 + 1) ∧ (a5 + 1) < zLN (a0 + 2)) ∧ zI (a7 + 1) ∧ K 6 [(2, a0), (0, a1), (0, a2), (0, a3), (0, a4), (0, a5 + 1), (0, a6), (0, a7 + 1), (3, 0)] [] (zupd v (a0 + 2) (a5 + 1) (a1.tdiv 24)) 115) ∧
          (¬ (-(v (a0 + 1) a7)) = 100 → (((-(v (a0 + 1) a7)) = 104 →
          zCL a0 = 2 ∧ zI (a5 + 1) ∧ zCL (a0 + 2) = 20 ∧ (0 ≤ (a5 + 1) ∧ (a5 + 1) < zLN (a0 + 2)) ∧ zI (a7 + 1) ∧ K 6 [(2, a0), (0, a1), (0, a2), (0, a3), (0, a4), (0, a5 + 1), (0, a6), (0, a7 + 1), (3, 0)] [] (zupd v (a0 + 2) (a5 + 1) (a1.tmod 24)) 115) ∧
          (¬ (-(v (a0 + 1) a7)) = 104 → (((-(v (a0 + 1) a7)) = 114 →
          zCL a0 = 2 ∧ zI (a5 + 1) ∧ zCL (a0 + 2) = 20 ∧ (0 ≤ (a5 + 1) ∧ (a5 + 1) < zLN (a0 + 2)) ∧ zI (a7 + 1) ∧ K 6 [(2, a0), (0, a1), (0, a2), (0, a3), (0, a4), (0, a5 + 1), (0, a6), (0, a7 + 1), (3, 0)] [] (zupd v (a0 + 2) (a5 + 1) a2) 115) ∧
          (¬ (-(v (a0 + 1) a7)) = 114 → (((-(v (a0 + 1) a7)) = 115 →
          zCL a0 = 2 ∧ zI (a5 + 1) ∧ zCL (a0 + 2) = 20 ∧ (0 ≤ (a5 + 1) ∧ (a5 + 1) < zLN (a0 + 2)) ∧ zI (a7 + 1) ∧ K 6 [(2, a0), (0, a1), (0, a2), (0, a3), (0, a4), (0, a5 + 1), (0, a6), (0, a7 + 1), (3, 0)] [] (zupd v (a0 + 2) (a5 + 1) a4) 115) ∧
          (¬ (-(v (a0 + 1) a7)) = 115 → 
          ((0 < (-(v (a0 + 1) a7)) →
            ((a5 ≤ 0 →
              zI (a7 + 1) ∧ K 6 [(2, a0), (0, a1), (0, a2), (0, a3), (0, a4), (0, a5), (0, a6), (0, a7 + 1), (3, 0)] [] v 115) ∧
              (0 < a5 →
              zI (a5 + (-1)) ∧ zCL a0 = 2 ∧ zCL a0 = 2 ∧ zCL (a0 + 2) = 20 ∧ (0 ≤ (a5 + (-1)) ∧ (a5 + (-1)) < zLN (a0 + 2)) ∧ zCL a0 = 2 ∧ zI ((a5 + (-1)) + 1) ∧ zCL (a0 + 2) = 20 ∧ (0 ≤ ((a5 + (-1)) + 1) ∧ ((a5 + (-1)) + 1) < zLN (a0 + 2)) ∧ zC l G 1 d h_La_joined [(0, v (a0 + 2) (a5 + (-1))), (0, -(v (a0 + 1) a7)), (0, v (a0 + 2) ((a5 + (-1)) + 1))] v 115 (fun r1 v1 =>
                zCL (a0 + 2) = 20 ∧ (0 ≤ (a5 + (-1)) ∧ (a5 + (-1)) < zLN (a0 + 2)) ∧ zI (a7 + 1) ∧ K 6 [(2, a0), (0, a1), (0, a2), (0, a3), (0, a4), (0, a5 + (-1)), (0, a6), (0, a7 + 1), (3, 0)] [] (zupd v1 (a0 + 2) (a5 + (-1)) r1) 115)))) ∧
            ((-(v (a0 + 1) a7)) ≤ 0 →
            zCL a0 = 2 ∧ zI (a5 + 1) ∧ zI (-(-(v (a0 + 1) a7))) ∧ zCL (a0 + 2) = 20 ∧ (0 ≤ (a5 + 1) ∧ (a5 + 1) < zLN (a0 + 2)) ∧ zI (a7 + 1) ∧ K 6 [(2, a0), (0, a1), (0, a2), (0, a3), (0, a4), (0, a5 + 1), (0, a6), (0, a7 + 1), (3, 0)] [] (zupd v (a0 + 2) (a5 + 1) (-(-(v (a0 + 1) a7)))) 115))))))))))))))))))) ∧
        (¬ a6 = 0 →
        (((-(v (a0 + 1) a7)) = 59 →
          zI (a7 + 1) ∧ K 6 [(2, a0), (0, a1), (0, a2), (0, a3), (0, a4), (0, a5), (0, 0), (0, a7 + 1), (3, 0)] [] v 115) ∧
          (¬ (-(v (a0 + 1) a7)) = 59 →
          zI (a7 + 1) ∧ K 6 [(2, a0), (0, a1), (0, a2), (0, a3), (0, a4), (0, a5), (0, 1), (0, a7 + 1), (3, 0)] [] v 115))))))))))) : zx l G 1 (d + 1) h_La_worth k_La_worth 115 Q QX K 300 (k_La_worth.drop 6) [(2, a0), (0, a1), (0, a2), (0, a3), (0, a4), (0, a5), (0, a6), (0, a7), (3, 0)] [] v 115 := h
set_option maxRecDepth 100000 in
theorem sg_La_joined_0 {l : Launch} {G : zG} {d : Nat} {Q : Int → zH → Prop} {QX : Nat → zH → Prop} {K : Nat → List zV → List zV → zH → Nat → Prop} {a0 a1 a2 : Int} {v : zH} (h : ((a1 < 38 → Q (zor a0 a2) v) ∧
  (a1 = 38 → Q (zand a0 a2) v) ∧
  (a1 = 39 → Q (zor a0 a2) v) ∧
  (a1 = 40 → Q (zor a0 a2) v) ∧
  (a1 = 41 → Q (zor a0 a2) v) ∧
  (a1 = 42 → zLg (a0 * a2) ∧ (((zcmp (a0 * a2) 1000000) ≤ 0 →
    ((0 ≤ (zcmp (a0 * a2) ((-1000000))) →
      zI (a0 * a2) ∧ Q (a0 * a2) v) ∧
      ((zcmp (a0 * a2) ((-1000000))) < 0 →
      Q ((-1000000)) v))) ∧
    (0 < (zcmp (a0 * a2) 1000000) →
    Q 1000000 v))) ∧
  (a1 = 43 → zLg (a0 + a2) ∧ (((zcmp (a0 + a2) 1000000) ≤ 0 →
    ((0 ≤ (zcmp (a0 + a2) ((-1000000))) →
      zI (a0 + a2) ∧ Q (a0 + a2) v) ∧
      ((zcmp (a0 + a2) ((-1000000))) < 0 →
      Q ((-1000000)) v))) ∧
    (0 < (zcmp (a0 + a2) 1000000) →
    Q 1000000 v))) ∧
  (a1 = 44 → Q (zor a0 a2) v) ∧
  (a1 = 45 → zLg (a0 - a2) ∧ (((zcmp (a0 - a2) 1000000) ≤ 0 →
    ((0 ≤ (zcmp (a0 - a2) ((-1000000))) →
      zI (a0 - a2) ∧ Q (a0 - a2) v) ∧
      ((zcmp (a0 - a2) ((-1000000))) < 0 →
      Q ((-1000000)) v))) ∧
    (0 < (zcmp (a0 - a2) 1000000) →
    Q 1000000 v))) ∧
  (a1 = 46 → Q (zor a0 a2) v) ∧
  (a1 = 47 → ((¬ a2 = 0 →
    ¬ a2 = 0 ∧ zI (a0.tdiv a2) ∧ (((zcmp (a0.tdiv a2) 1000000) ≤ 0 →
      ((0 ≤ (zcmp (a0.tdiv a2) ((-1000000))) →
        zI (a0.tdiv a2) ∧ Q (a0.tdiv a2) v) ∧
        ((zcmp (a0.tdiv a2) ((-1000000))) < 0 →
        Q ((-1000000)) v))) ∧
      (0 < (zcmp (a0.tdiv a2) 1000000) →
      Q 1000000 v))) ∧
    (a2 = 0 →
    (((zcmp 0 1000000) ≤ 0 →
      ((0 ≤ (zcmp 0 ((-1000000))) →
        zI 0 ∧ Q 0 v) ∧
        ((zcmp 0 ((-1000000))) < 0 →
        Q ((-1000000)) v))) ∧
      (0 < (zcmp 0 1000000) →
      Q 1000000 v))))) ∧
  (a1 = 48 → Q (zor a0 a2) v) ∧
  (a1 = 49 → Q (zor a0 a2) v) ∧
  (a1 = 50 → Q (zor a0 a2) v) ∧
  (a1 = 51 → Q (zor a0 a2) v) ∧
  (a1 = 52 → Q (zor a0 a2) v) ∧
  (a1 = 53 → Q (zor a0 a2) v) ∧
  (a1 = 54 → Q (zor a0 a2) v) ∧
  (a1 = 55 → Q (zor a0 a2) v) ∧
  (a1 = 56 → Q (zor a0 a2) v) ∧
  (a1 = 57 → Q (zor a0 a2) v) ∧
  (a1 = 58 → Q (zor a0 a2) v) ∧
  (a1 = 59 → Q (zor a0 a2) v) ∧
  (a1 = 60 → ((a2 ≤ a0 →
    Q 0 v) ∧
    (a0 < a2 →
    Q 1 v))) ∧
  (a1 = 61 → ((¬ a0 = a2 →
    Q 0 v) ∧
    (a0 = a2 →
    Q 1 v))) ∧
  (a1 = 62 → ((a0 ≤ a2 →
    Q 0 v) ∧
    (a2 < a0 →
    Q 1 v))) ∧
  (63 ≤ a1 → Q (zor a0 a2) v))) : zx l G 1 (d + 1) h_La_joined k_La_joined 115 Q QX K 300 (k_La_joined.drop 0) [(0, a0), (0, a1), (0, a2), (3, 0), (3, 0)] [] v 115 := h
set_option maxRecDepth 100000 in
theorem sg_LR_faultOf_0 {l : Launch} {G : zG} {d : Nat} {Q : Int → zH → Prop} {QX : Nat → zH → Prop} {K : Nat → List zV → List zV → zH → Nat → Prop} {a0 a1 : Int} {v : zH} (h : zCL a0 = 3 ∧ zCL a1 = 2 ∧ zC l G 1 d h_La_clear [(2, a1)] (zupd v a0 1 0) 115 (fun _ v1 =>
  K 7 [(2, a0), (2, a1), (0, 0)] [] v1 115)) : zx l G 1 (d + 1) h_LR_faultOf k_LR_faultOf 115 Q QX K 300 (k_LR_faultOf.drop 0) [(2, a0), (2, a1), (3, 0)] [] v 115 := h
set_option maxRecDepth 100000 in
theorem sg_LR_faultOf_7 {l : Launch} {G : zG} {d : Nat} {Q : Int → zH → Prop} {QX : Nat → zH → Prop} {K : Nat → List zV → List zV → zH → Nat → Prop} {a0 a1 a2 : Int} {v : zH} (h : zCL a0 = 3 ∧ zCL (a0 + (-3)) = 6 ∧ (((v (a0 + (-3)) 1) < a2 →
  zCL a0 = 3 ∧ zC l G 1 d h_LR_sign [(2, a0)] v 115 (fun r1 v1 =>
    ((¬ r1 = ((-1)) →
    zCL a0 = 3 ∧ Q (v1 a0 1) v1) ∧
    (r1 = ((-1)) →
    Q ((-1)) v1)))) ∧
  (a2 ≤ (v (a0 + (-3)) 1) →
  zCL a0 = 3 ∧ zC l G 1 d h_LR_clause [(2, a0), (2, a1)] v 115 (fun r2 v2 =>
    ((¬ r2 = 0 →
    zCL a1 = 2 ∧ zC l G 1 d h_La_addSign [(2, a1), (0, 59)] v2 115 (fun _ v3 =>
      zCL a0 = 3 ∧ zC l G 1 d h_LR_takes [(2, a0), (0, 59)] v3 115 (fun r4 v4 =>
      ((¬ r4 = 0 →
      zI (a2 + 1) ∧ K 7 [(2, a0), (2, a1), (0, a2 + 1)] [] v4 115) ∧
      (r4 = 0 →
      zCL a0 = 3 ∧ zC l G 1 d h_LR_sign [(2, a0)] v4 115 (fun r5 v5 =>
        ((¬ r5 = ((-1)) →
        zCL a0 = 3 ∧ Q (v5 a0 1) v5) ∧
        (r5 = ((-1)) →
        Q ((-1)) v5)))))))) ∧
    (r2 = 0 →
    zCL a0 = 3 ∧ Q (v2 a0 1) v2)))))) : zx l G 1 (d + 1) h_LR_faultOf k_LR_faultOf 115 Q QX K 300 (k_LR_faultOf.drop 7) [(2, a0), (2, a1), (0, a2)] [] v 115 := h
set_option maxRecDepth 100000 in
theorem sg_LR_clause_0 {l : Launch} {G : zG} {d : Nat} {Q : Int → zH → Prop} {QX : Nat → zH → Prop} {K : Nat → List zV → List zV → zH → Nat → Prop} {a0 a1 : Int} {v : zH} (h : zCL a0 = 3 ∧ zC l G 1 d h_LR_takes [(2, a0), (0, 121)] v 115 (fun r1 v1 =>
  ((r1 = 0 →
  ((0 : Int) = 0 ∨ (0 : Int) = 1) ∧ Q 0 v1) ∧
  (¬ r1 = 0 →
  zCL a0 = 3 ∧ zC l G 1 d h_LR_takes [(2, a0), (0, 58)] v1 115 (fun r2 v2 =>
    ((¬ r2 = 0 →
    zCL a0 = 3 ∧ zC l G 1 d h_LR_sign [(2, a0)] v2 115 (fun r3 v3 =>
      ((r3 = 33 →
      (((0 : Int) = 0 →
        zCL a0 = 3 ∧ zC l G 1 d h_LR_condition [(2, a0), (2, a1), (0, 0), (0, 0)] v3 115 (fun r4 v4 =>
          ((r4 = 0 →
          ((0 : Int) = 0 ∨ (0 : Int) = 1) ∧ Q 0 v4) ∧
          (¬ r4 = 0 →
          zCL a0 = 3 ∧ zC l G 1 d h_LR_takes [(2, a0), (0, 63)] v4 115 (fun r5 v5 =>
            ((¬ r5 = 0 →
            zCL a1 = 2 ∧ zC l G 1 d h_La_addSign [(2, a1), (0, 63)] v5 115 (fun _ v6 =>
              zCL a0 = 3 ∧ zC l G 1 d h_LR_sum [(2, a0), (2, a1), (0, 0)] v6 115 (fun r7 v7 =>
              (r7 = 0 ∨ r7 = 1) ∧ Q r7 v7))) ∧
            (r5 = 0 →
            ((0 : Int) = 0 ∨ (0 : Int) = 1) ∧ Q 0 v5))))))) ∧
        (¬ (0 : Int) = 0 →
        zCL a0 = 3 ∧ zC l G 1 d h_LR_sum [(2, a0), (2, a1), (0, 0)] v3 115 (fun r8 v8 =>
          ((¬ r8 = 0 →
          zCL a0 = 3 ∧ zC l G 1 d h_LR_sign [(2, a0)] v8 115 (fun r9 v9 =>
            zC l G 1 d h_LR_compares [(0, r9)] v9 115 (fun r10 v10 =>
            ((¬ r10 = 0 →
            zCL a0 = 3 ∧ zC l G 1 d h_LR_condition [(2, a0), (2, a1), (0, 0), (0, 0)] v10 115 (fun r11 v11 =>
              ((r11 = 0 →
              ((0 : Int) = 0 ∨ (0 : Int) = 1) ∧ Q 0 v11) ∧
              (¬ r11 = 0 →
              zCL a0 = 3 ∧ zC l G 1 d h_LR_takes [(2, a0), (0, 63)] v11 115 (fun r12 v12 =>
                ((¬ r12 = 0 →
                zCL a1 = 2 ∧ zC l G 1 d h_La_addSign [(2, a1), (0, 63)] v12 115 (fun _ v13 =>
                  zCL a0 = 3 ∧ zC l G 1 d h_LR_sum [(2, a0), (2, a1), (0, 0)] v13 115 (fun r14 v14 =>
                  (r14 = 0 ∨ r14 = 1) ∧ Q r14 v14))) ∧
                (r12 = 0 →
                ((0 : Int) = 0 ∨ (0 : Int) = 1) ∧ Q 0 v12))))))) ∧
            (r10 = 0 →
            ((1 : Int) = 0 ∨ (1 : Int) = 1) ∧ Q 1 v10))))) ∧
          (r8 = 0 →
          ((0 : Int) = 0 ∨ (0 : Int) = 1) ∧ Q 0 v8)))))) ∧
      (¬ r3 = 33 →
      zCL a0 = 3 ∧ zC l G 1 d h_LR_sign [(2, a0)] v3 115 (fun r15 v15 =>
        ((r15 = 40 →
        (((0 : Int) = 0 →
          zCL a0 = 3 ∧ zC l G 1 d h_LR_condition [(2, a0), (2, a1), (0, 0), (0, 0)] v15 115 (fun r16 v16 =>
            ((r16 = 0 →
            ((0 : Int) = 0 ∨ (0 : Int) = 1) ∧ Q 0 v16) ∧
            (¬ r16 = 0 →
            zCL a0 = 3 ∧ zC l G 1 d h_LR_takes [(2, a0), (0, 63)] v16 115 (fun r17 v17 =>
              ((¬ r17 = 0 →
              zCL a1 = 2 ∧ zC l G 1 d h_La_addSign [(2, a1), (0, 63)] v17 115 (fun _ v18 =>
                zCL a0 = 3 ∧ zC l G 1 d h_LR_sum [(2, a0), (2, a1), (0, 0)] v18 115 (fun r19 v19 =>
                (r19 = 0 ∨ r19 = 1) ∧ Q r19 v19))) ∧
              (r17 = 0 →
              ((0 : Int) = 0 ∨ (0 : Int) = 1) ∧ Q 0 v17))))))) ∧
          (¬ (0 : Int) = 0 →
          zCL a0 = 3 ∧ zC l G 1 d h_LR_sum [(2, a0), (2, a1), (0, 0)] v15 115 (fun r20 v20 =>
            ((¬ r20 = 0 →
            zCL a0 = 3 ∧ zC l G 1 d h_LR_sign [(2, a0)] v20 115 (fun r21 v21 =>
              zC l G 1 d h_LR_compares [(0, r21)] v21 115 (fun r22 v22 =>
              ((¬ r22 = 0 →
              zCL a0 = 3 ∧ zC l G 1 d h_LR_condition [(2, a0), (2, a1), (0, 0), (0, 0)] v22 115 (fun r23 v23 =>
                ((r23 = 0 →
                ((0 : Int) = 0 ∨ (0 : Int) = 1) ∧ Q 0 v23) ∧
                (¬ r23 = 0 →
                zCL a0 = 3 ∧ zC l G 1 d h_LR_takes [(2, a0), (0, 63)] v23 115 (fun r24 v24 =>
                  ((¬ r24 = 0 →
                  zCL a1 = 2 ∧ zC l G 1 d h_La_addSign [(2, a1), (0, 63)] v24 115 (fun _ v25 =>
                    zCL a0 = 3 ∧ zC l G 1 d h_LR_sum [(2, a0), (2, a1), (0, 0)] v25 115 (fun r26 v26 =>
                    (r26 = 0 ∨ r26 = 1) ∧ Q r26 v26))) ∧
                  (r24 = 0 →
                  ((0 : Int) = 0 ∨ (0 : Int) = 1) ∧ Q 0 v24))))))) ∧
              (r22 = 0 →
              ((1 : Int) = 0 ∨ (1 : Int) = 1) ∧ Q 1 v22))))) ∧
            (r20 = 0 →
            ((0 : Int) = 0 ∨ (0 : Int) = 1) ∧ Q 0 v20)))))) ∧
        (¬ r15 = 40 →
        (((1 : Int) = 0 →
          zCL a0 = 3 ∧ zC l G 1 d h_LR_condition [(2, a0), (2, a1), (0, 0), (0, 1)] v15 115 (fun r27 v27 =>
            ((r27 = 0 →
            ((0 : Int) = 0 ∨ (0 : Int) = 1) ∧ Q 0 v27) ∧
            (¬ r27 = 0 →
            zCL a0 = 3 ∧ zC l G 1 d h_LR_takes [(2, a0), (0, 63)] v27 115 (fun r28 v28 =>
              ((¬ r28 = 0 →
              zCL a1 = 2 ∧ zC l G 1 d h_La_addSign [(2, a1), (0, 63)] v28 115 (fun _ v29 =>
                zCL a0 = 3 ∧ zC l G 1 d h_LR_sum [(2, a0), (2, a1), (0, 0)] v29 115 (fun r30 v30 =>
                (r30 = 0 ∨ r30 = 1) ∧ Q r30 v30))) ∧
              (r28 = 0 →
              ((0 : Int) = 0 ∨ (0 : Int) = 1) ∧ Q 0 v28))))))) ∧
          (¬ (1 : Int) = 0 →
          zCL a0 = 3 ∧ zC l G 1 d h_LR_sum [(2, a0), (2, a1), (0, 0)] v15 115 (fun r31 v31 =>
            ((¬ r31 = 0 →
            zCL a0 = 3 ∧ zC l G 1 d h_LR_sign [(2, a0)] v31 115 (fun r32 v32 =>
              zC l G 1 d h_LR_compares [(0, r32)] v32 115 (fun r33 v33 =>
              ((¬ r33 = 0 →
              zCL a0 = 3 ∧ zC l G 1 d h_LR_condition [(2, a0), (2, a1), (0, 0), (0, 1)] v33 115 (fun r34 v34 =>
                ((r34 = 0 →
                ((0 : Int) = 0 ∨ (0 : Int) = 1) ∧ Q 0 v34) ∧
                (¬ r34 = 0 →
                zCL a0 = 3 ∧ zC l G 1 d h_LR_takes [(2, a0), (0, 63)] v34 115 (fun r35 v35 =>
                  ((¬ r35 = 0 →
                  zCL a1 = 2 ∧ zC l G 1 d h_La_addSign [(2, a1), (0, 63)] v35 115 (fun _ v36 =>
                    zCL a0 = 3 ∧ zC l G 1 d h_LR_sum [(2, a0), (2, a1), (0, 0)] v36 115 (fun r37 v37 =>
                    (r37 = 0 ∨ r37 = 1) ∧ Q r37 v37))) ∧
                  (r35 = 0 →
                  ((0 : Int) = 0 ∨ (0 : Int) = 1) ∧ Q 0 v35))))))) ∧
              (r33 = 0 →
              ((1 : Int) = 0 ∨ (1 : Int) = 1) ∧ Q 1 v33))))) ∧
            (r31 = 0 →
            ((0 : Int) = 0 ∨ (0 : Int) = 1) ∧ Q 0 v31)))))))))))) ∧
    (r2 = 0 →
    ((0 : Int) = 0 ∨ (0 : Int) = 1) ∧ Q 0 v2))))))) : zx l G 1 (d + 1) h_LR_clause k_LR_clause 115 Q QX K 300 (k_LR_clause.drop 0) [(2, a0), (2, a1), (3, 0)] [] v 115 := h
set_option maxRecDepth 100000 in
theorem sg_LR_condition_0 {l : Launch} {G : zG} {d : Nat} {Q : Int → zH → Prop} {QX : Nat → zH → Prop} {K : Nat → List zV → List zV → zH → Nat → Prop} {a0 a1 a2 a3 : Int} {v : zH} (h : K 2 [(2, a0), (2, a1), (0, a2), (0, a3), (0, 0)] [] v 115) : zx l G 1 (d + 1) h_LR_condition k_LR_condition 115 Q QX K 300 (k_LR_condition.drop 0) [(2, a0), (2, a1), (0, a2), (0, a3), (3, 0)] [] v 115 := h
set_option maxRecDepth 100000 in
theorem sg_LR_condition_2 {l : Launch} {G : zG} {d : Nat} {Q : Int → zH → Prop} {QX : Nat → zH → Prop} {K : Nat → List zV → List zV → zH → Nat → Prop} {a0 a1 a2 a3 a4 : Int} {v : zH} (h : zCL a0 = 3 ∧ zCL (a0 + (-3)) = 6 ∧ (((v (a0 + (-3)) 1) < a4 →
  ((0 : Int) = 0 ∨ (0 : Int) = 1) ∧ Q 0 v) ∧
  (a4 ≤ (v (a0 + (-3)) 1) →
  ((a3 = 0 →
    zCL a0 = 3 ∧ zC l G 1 d h_LR_truth [(2, a0), (2, a1), (0, a2), (0, 0)] v 115 (fun r1 v1 =>
      ((¬ r1 = 0 →
      ((a4 ≤ 0 →
        zCL a0 = 3 ∧ zC l G 1 d h_LR_takes [(2, a0), (0, 124)] v1 115 (fun r2 v2 =>
          ((¬ r2 = 0 →
          zI (a4 + 1) ∧ K 2 [(2, a0), (2, a1), (0, a2), (0, a3), (0, a4 + 1)] [] v2 115) ∧
          (r2 = 0 →
          ((1 : Int) = 0 ∨ (1 : Int) = 1) ∧ Q 1 v2)))) ∧
        (0 < a4 →
        zCL a1 = 2 ∧ zC l G 1 d h_La_addSign [(2, a1), (0, 124)] v1 115 (fun _ v3 =>
          zCL a0 = 3 ∧ zC l G 1 d h_LR_takes [(2, a0), (0, 124)] v3 115 (fun r4 v4 =>
          ((¬ r4 = 0 →
          zI (a4 + 1) ∧ K 2 [(2, a0), (2, a1), (0, a2), (0, a3), (0, a4 + 1)] [] v4 115) ∧
          (r4 = 0 →
          ((1 : Int) = 0 ∨ (1 : Int) = 1) ∧ Q 1 v4))))))) ∧
      (r1 = 0 →
      ((0 : Int) = 0 ∨ (0 : Int) = 1) ∧ Q 0 v1)))) ∧
    (¬ a3 = 0 →
    ((¬ a4 = 0 →
      zCL a0 = 3 ∧ zC l G 1 d h_LR_truth [(2, a0), (2, a1), (0, a2), (0, 0)] v 115 (fun r5 v5 =>
        ((¬ r5 = 0 →
        ((a4 ≤ 0 →
          zCL a0 = 3 ∧ zC l G 1 d h_LR_takes [(2, a0), (0, 124)] v5 115 (fun r6 v6 =>
            ((¬ r6 = 0 →
            zI (a4 + 1) ∧ K 2 [(2, a0), (2, a1), (0, a2), (0, a3), (0, a4 + 1)] [] v6 115) ∧
            (r6 = 0 →
            ((1 : Int) = 0 ∨ (1 : Int) = 1) ∧ Q 1 v6)))) ∧
          (0 < a4 →
          zCL a1 = 2 ∧ zC l G 1 d h_La_addSign [(2, a1), (0, 124)] v5 115 (fun _ v7 =>
            zCL a0 = 3 ∧ zC l G 1 d h_LR_takes [(2, a0), (0, 124)] v7 115 (fun r8 v8 =>
            ((¬ r8 = 0 →
            zI (a4 + 1) ∧ K 2 [(2, a0), (2, a1), (0, a2), (0, a3), (0, a4 + 1)] [] v8 115) ∧
            (r8 = 0 →
            ((1 : Int) = 0 ∨ (1 : Int) = 1) ∧ Q 1 v8))))))) ∧
        (r5 = 0 →
        ((0 : Int) = 0 ∨ (0 : Int) = 1) ∧ Q 0 v5)))) ∧
      (a4 = 0 →
      zCL a0 = 3 ∧ zC l G 1 d h_LR_truth [(2, a0), (2, a1), (0, a2), (0, 1)] v 115 (fun r9 v9 =>
        ((¬ r9 = 0 →
        ((a4 ≤ 0 →
          zCL a0 = 3 ∧ zC l G 1 d h_LR_takes [(2, a0), (0, 124)] v9 115 (fun r10 v10 =>
            ((¬ r10 = 0 →
            zI (a4 + 1) ∧ K 2 [(2, a0), (2, a1), (0, a2), (0, a3), (0, a4 + 1)] [] v10 115) ∧
            (r10 = 0 →
            ((1 : Int) = 0 ∨ (1 : Int) = 1) ∧ Q 1 v10)))) ∧
          (0 < a4 →
          zCL a1 = 2 ∧ zC l G 1 d h_La_addSign [(2, a1), (0, 124)] v9 115 (fun _ v11 =>
            zCL a0 = 3 ∧ zC l G 1 d h_LR_takes [(2, a0), (0, 124)] v11 115 (fun r12 v12 =>
            ((¬ r12 = 0 →
            zI (a4 + 1) ∧ K 2 [(2, a0), (2, a1), (0, a2), (0, a3), (0, a4 + 1)] [] v12 115) ∧
            (r12 = 0 →
            ((1 : Int) = 0 ∨ (1 : Int) = 1) ∧ Q 1 v12))))))) ∧
        (r9 = 0 →
        ((0 : Int) = 0 ∨ (0 : Int) = 1) ∧ Q 0 v9)))))))))) : zx l G 1 (d + 1) h_LR_condition k_LR_condition 115 Q QX K 300 (k_LR_condition.drop 2) [(2, a0), (2, a1), (0, a2), (0, a3), (0, a4)] [] v 115 := h
set_option maxRecDepth 100000 in
theorem sg_LR_truth_0 {l : Launch} {G : zG} {d : Nat} {Q : Int → zH → Prop} {QX : Nat → zH → Prop} {K : Nat → List zV → List zV → zH → Nat → Prop} {a0 a1 a2 a3 : Int} {v : zH} (h : K 2 [(2, a0), (2, a1), (0, a2), (0, a3), (0, 0)] [] v 115) : zx l G 1 (d + 1) h_LR_truth k_LR_truth 115 Q QX K 300 (k_LR_truth.drop 0) [(2, a0), (2, a1), (0, a2), (0, a3), (3, 0)] [] v 115 := h
set_option maxRecDepth 100000 in
theorem sg_LR_truth_2 {l : Launch} {G : zG} {d : Nat} {Q : Int → zH → Prop} {QX : Nat → zH → Prop} {K : Nat → List zV → List zV → zH → Nat → Prop} {a0 a1 a2 a3 a4 : Int} {v : zH} (h : zCL a0 = 3 ∧ zCL (a0 + (-3)) = 6 ∧ (((v (a0 + (-3)) 1) < a4 →
  ((0 : Int) = 0 ∨ (0 : Int) = 1) ∧ Q 0 v) ∧
  (a4 ≤ (v (a0 + (-3)) 1) →
  ((a3 = 0 →
    zCL a0 = 3 ∧ zC l G 1 d h_LR_unit [(2, a0), (2, a1), (0, a2), (0, 0)] v 115 (fun r1 v1 =>
      ((¬ r1 = 0 →
      ((a4 ≤ 0 →
        zCL a0 = 3 ∧ zC l G 1 d h_LR_takes [(2, a0), (0, 38)] v1 115 (fun r2 v2 =>
          ((¬ r2 = 0 →
          zI (a4 + 1) ∧ K 2 [(2, a0), (2, a1), (0, a2), (0, a3), (0, a4 + 1)] [] v2 115) ∧
          (r2 = 0 →
          ((1 : Int) = 0 ∨ (1 : Int) = 1) ∧ Q 1 v2)))) ∧
        (0 < a4 →
        zCL a1 = 2 ∧ zC l G 1 d h_La_addSign [(2, a1), (0, 38)] v1 115 (fun _ v3 =>
          zCL a0 = 3 ∧ zC l G 1 d h_LR_takes [(2, a0), (0, 38)] v3 115 (fun r4 v4 =>
          ((¬ r4 = 0 →
          zI (a4 + 1) ∧ K 2 [(2, a0), (2, a1), (0, a2), (0, a3), (0, a4 + 1)] [] v4 115) ∧
          (r4 = 0 →
          ((1 : Int) = 0 ∨ (1 : Int) = 1) ∧ Q 1 v4))))))) ∧
      (r1 = 0 →
      ((0 : Int) = 0 ∨ (0 : Int) = 1) ∧ Q 0 v1)))) ∧
    (¬ a3 = 0 →
    ((¬ a4 = 0 →
      zCL a0 = 3 ∧ zC l G 1 d h_LR_unit [(2, a0), (2, a1), (0, a2), (0, 0)] v 115 (fun r5 v5 =>
        ((¬ r5 = 0 →
        ((a4 ≤ 0 →
          zCL a0 = 3 ∧ zC l G 1 d h_LR_takes [(2, a0), (0, 38)] v5 115 (fun r6 v6 =>
            ((¬ r6 = 0 →
            zI (a4 + 1) ∧ K 2 [(2, a0), (2, a1), (0, a2), (0, a3), (0, a4 + 1)] [] v6 115) ∧
            (r6 = 0 →
            ((1 : Int) = 0 ∨ (1 : Int) = 1) ∧ Q 1 v6)))) ∧
          (0 < a4 →
          zCL a1 = 2 ∧ zC l G 1 d h_La_addSign [(2, a1), (0, 38)] v5 115 (fun _ v7 =>
            zCL a0 = 3 ∧ zC l G 1 d h_LR_takes [(2, a0), (0, 38)] v7 115 (fun r8 v8 =>
            ((¬ r8 = 0 →
            zI (a4 + 1) ∧ K 2 [(2, a0), (2, a1), (0, a2), (0, a3), (0, a4 + 1)] [] v8 115) ∧
            (r8 = 0 →
            ((1 : Int) = 0 ∨ (1 : Int) = 1) ∧ Q 1 v8))))))) ∧
        (r5 = 0 →
        ((0 : Int) = 0 ∨ (0 : Int) = 1) ∧ Q 0 v5)))) ∧
      (a4 = 0 →
      zCL a0 = 3 ∧ zC l G 1 d h_LR_unit [(2, a0), (2, a1), (0, a2), (0, 1)] v 115 (fun r9 v9 =>
        ((¬ r9 = 0 →
        ((a4 ≤ 0 →
          zCL a0 = 3 ∧ zC l G 1 d h_LR_takes [(2, a0), (0, 38)] v9 115 (fun r10 v10 =>
            ((¬ r10 = 0 →
            zI (a4 + 1) ∧ K 2 [(2, a0), (2, a1), (0, a2), (0, a3), (0, a4 + 1)] [] v10 115) ∧
            (r10 = 0 →
            ((1 : Int) = 0 ∨ (1 : Int) = 1) ∧ Q 1 v10)))) ∧
          (0 < a4 →
          zCL a1 = 2 ∧ zC l G 1 d h_La_addSign [(2, a1), (0, 38)] v9 115 (fun _ v11 =>
            zCL a0 = 3 ∧ zC l G 1 d h_LR_takes [(2, a0), (0, 38)] v11 115 (fun r12 v12 =>
            ((¬ r12 = 0 →
            zI (a4 + 1) ∧ K 2 [(2, a0), (2, a1), (0, a2), (0, a3), (0, a4 + 1)] [] v12 115) ∧
            (r12 = 0 →
            ((1 : Int) = 0 ∨ (1 : Int) = 1) ∧ Q 1 v12))))))) ∧
        (r9 = 0 →
        ((0 : Int) = 0 ∨ (0 : Int) = 1) ∧ Q 0 v9)))))))))) : zx l G 1 (d + 1) h_LR_truth k_LR_truth 115 Q QX K 300 (k_LR_truth.drop 2) [(2, a0), (2, a1), (0, a2), (0, a3), (0, a4)] [] v 115 := h
set_option maxRecDepth 100000 in
theorem sg_LR_unit_0 {l : Launch} {G : zG} {d : Nat} {Q : Int → zH → Prop} {QX : Nat → zH → Prop} {K : Nat → List zV → List zV → zH → Nat → Prop} {a0 a1 a2 a3 : Int} {v : zH} (h : zCL a0 = 3 ∧ zC l G 1 d h_LR_sign [(2, a0)] v 115 (fun r1 v1 =>
  ((¬ a3 = 0 →
  ((¬ a3 = 0 →
    zCL a0 = 3 ∧ zC l G 1 d h_LR_sign [(2, a0)] v1 115 (fun r2 v2 =>
      zC l G 1 d h_LR_compares [(0, r2)] v2 115 (fun r3 v3 =>
      ((¬ r3 = 0 →
      zCL a0 = 3 ∧ zI ((v3 a0 1) + 1) ∧ zCL a0 = 3 ∧ zCL a0 = 3 ∧ zC l G 1 d h_LR_sum [(2, a0), (2, a1), (0, a2)] (zupd v3 a0 1 ((v3 a0 1) + 1)) 115 (fun r4 v4 =>
        ((¬ r4 = 0 →
        zCL a1 = 2 ∧ zC l G 1 d h_La_addSign [(2, a1), (0, r2)] v4 115 (fun _ v5 =>
          ((1 : Int) = 0 ∨ (1 : Int) = 1) ∧ Q 1 v5)) ∧
        (r4 = 0 →
        ((0 : Int) = 0 ∨ (0 : Int) = 1) ∧ Q 0 v4)))) ∧
      (r3 = 0 →
      ((0 : Int) = 0 ∨ (0 : Int) = 1) ∧ Q 0 v3))))) ∧
    (a3 = 0 →
    zCL a0 = 3 ∧ zC l G 1 d h_LR_sum [(2, a0), (2, a1), (0, a2)] v1 115 (fun r6 v6 =>
      ((¬ r6 = 0 →
      zCL a0 = 3 ∧ zC l G 1 d h_LR_sign [(2, a0)] v6 115 (fun r7 v7 =>
        zC l G 1 d h_LR_compares [(0, r7)] v7 115 (fun r8 v8 =>
        ((¬ r8 = 0 →
        zCL a0 = 3 ∧ zI ((v8 a0 1) + 1) ∧ zCL a0 = 3 ∧ zCL a0 = 3 ∧ zC l G 1 d h_LR_sum [(2, a0), (2, a1), (0, a2)] (zupd v8 a0 1 ((v8 a0 1) + 1)) 115 (fun r9 v9 =>
          ((¬ r9 = 0 →
          zCL a1 = 2 ∧ zC l G 1 d h_La_addSign [(2, a1), (0, r7)] v9 115 (fun _ v10 =>
            ((1 : Int) = 0 ∨ (1 : Int) = 1) ∧ Q 1 v10)) ∧
          (r9 = 0 →
          ((0 : Int) = 0 ∨ (0 : Int) = 1) ∧ Q 0 v9)))) ∧
        (r8 = 0 →
        ((0 : Int) = 0 ∨ (0 : Int) = 1) ∧ Q 0 v8))))) ∧
      (r6 = 0 →
      ((0 : Int) = 0 ∨ (0 : Int) = 1) ∧ Q 0 v6)))))) ∧
  (a3 = 0 →
  ((r1 = 33 →
    ((¬ a2 = 6 →
      zCL a0 = 3 ∧ zI ((v1 a0 1) + 1) ∧ zCL a0 = 3 ∧ ((¬ r1 = 40 →
        zI (a2 + 1) ∧ zCL a0 = 3 ∧ zC l G 1 d h_LR_unit [(2, a0), (2, a1), (0, a2 + 1), (0, 0)] (zupd v1 a0 1 ((v1 a0 1) + 1)) 115 (fun r11 v11 =>
          ((¬ r11 = 0 →
          zCL a1 = 2 ∧ zC l G 1 d h_La_addSign [(2, a1), (0, 33)] v11 115 (fun _ v12 =>
            ((1 : Int) = 0 ∨ (1 : Int) = 1) ∧ Q 1 v12)) ∧
          (r11 = 0 →
          ((0 : Int) = 0 ∨ (0 : Int) = 1) ∧ Q 0 v11)))) ∧
        (r1 = 40 →
        zI (a2 + 1) ∧ zCL a0 = 3 ∧ zC l G 1 d h_LR_condition [(2, a0), (2, a1), (0, a2 + 1), (0, 0)] (zupd v1 a0 1 ((v1 a0 1) + 1)) 115 (fun r13 v13 =>
          ((r13 = 0 →
          ((0 : Int) = 0 ∨ (0 : Int) = 1) ∧ Q 0 v13) ∧
          (¬ r13 = 0 →
          zCL a0 = 3 ∧ zC l G 1 d h_LR_takes [(2, a0), (0, 41)] v13 115 (fun r14 v14 =>
            ((r14 = 0 →
            ((0 : Int) = 0 ∨ (0 : Int) = 1) ∧ Q 0 v14) ∧
            (¬ r14 = 0 →
            ((1 : Int) = 0 ∨ (1 : Int) = 1) ∧ Q 1 v14))))))))) ∧
      (a2 = 6 →
      ((0 : Int) = 0 ∨ (0 : Int) = 1) ∧ Q 0 v1))) ∧
    (¬ r1 = 33 →
    ((¬ r1 = 40 →
      ((¬ a3 = 0 →
        zCL a0 = 3 ∧ zC l G 1 d h_LR_sign [(2, a0)] v1 115 (fun r15 v15 =>
          zC l G 1 d h_LR_compares [(0, r15)] v15 115 (fun r16 v16 =>
          ((¬ r16 = 0 →
          zCL a0 = 3 ∧ zI ((v16 a0 1) + 1) ∧ zCL a0 = 3 ∧ zCL a0 = 3 ∧ zC l G 1 d h_LR_sum [(2, a0), (2, a1), (0, a2)] (zupd v16 a0 1 ((v16 a0 1) + 1)) 115 (fun r17 v17 =>
            ((¬ r17 = 0 →
            zCL a1 = 2 ∧ zC l G 1 d h_La_addSign [(2, a1), (0, r15)] v17 115 (fun _ v18 =>
              ((1 : Int) = 0 ∨ (1 : Int) = 1) ∧ Q 1 v18)) ∧
            (r17 = 0 →
            ((0 : Int) = 0 ∨ (0 : Int) = 1) ∧ Q 0 v17)))) ∧
          (r16 = 0 →
          ((0 : Int) = 0 ∨ (0 : Int) = 1) ∧ Q 0 v16))))) ∧
        (a3 = 0 →
        zCL a0 = 3 ∧ zC l G 1 d h_LR_sum [(2, a0), (2, a1), (0, a2)] v1 115 (fun r19 v19 =>
          ((¬ r19 = 0 →
          zCL a0 = 3 ∧ zC l G 1 d h_LR_sign [(2, a0)] v19 115 (fun r20 v20 =>
            zC l G 1 d h_LR_compares [(0, r20)] v20 115 (fun r21 v21 =>
            ((¬ r21 = 0 →
            zCL a0 = 3 ∧ zI ((v21 a0 1) + 1) ∧ zCL a0 = 3 ∧ zCL a0 = 3 ∧ zC l G 1 d h_LR_sum [(2, a0), (2, a1), (0, a2)] (zupd v21 a0 1 ((v21 a0 1) + 1)) 115 (fun r22 v22 =>
              ((¬ r22 = 0 →
              zCL a1 = 2 ∧ zC l G 1 d h_La_addSign [(2, a1), (0, r20)] v22 115 (fun _ v23 =>
                ((1 : Int) = 0 ∨ (1 : Int) = 1) ∧ Q 1 v23)) ∧
              (r22 = 0 →
              ((0 : Int) = 0 ∨ (0 : Int) = 1) ∧ Q 0 v22)))) ∧
            (r21 = 0 →
            ((0 : Int) = 0 ∨ (0 : Int) = 1) ∧ Q 0 v21))))) ∧
          (r19 = 0 →
          ((0 : Int) = 0 ∨ (0 : Int) = 1) ∧ Q 0 v19)))))) ∧
      (r1 = 40 →
      ((¬ a2 = 6 →
        zCL a0 = 3 ∧ zI ((v1 a0 1) + 1) ∧ zCL a0 = 3 ∧ ((¬ r1 = 40 →
          zI (a2 + 1) ∧ zCL a0 = 3 ∧ zC l G 1 d h_LR_unit [(2, a0), (2, a1), (0, a2 + 1), (0, 0)] (zupd v1 a0 1 ((v1 a0 1) + 1)) 115 (fun r24 v24 =>
            ((¬ r24 = 0 →
            zCL a1 = 2 ∧ zC l G 1 d h_La_addSign [(2, a1), (0, 33)] v24 115 (fun _ v25 =>
              ((1 : Int) = 0 ∨ (1 : Int) = 1) ∧ Q 1 v25)) ∧
            (r24 = 0 →
            ((0 : Int) = 0 ∨ (0 : Int) = 1) ∧ Q 0 v24)))) ∧
          (r1 = 40 →
          zI (a2 + 1) ∧ zCL a0 = 3 ∧ zC l G 1 d h_LR_condition [(2, a0), (2, a1), (0, a2 + 1), (0, 0)] (zupd v1 a0 1 ((v1 a0 1) + 1)) 115 (fun r26 v26 =>
            ((r26 = 0 →
            ((0 : Int) = 0 ∨ (0 : Int) = 1) ∧ Q 0 v26) ∧
            (¬ r26 = 0 →
            zCL a0 = 3 ∧ zC l G 1 d h_LR_takes [(2, a0), (0, 41)] v26 115 (fun r27 v27 =>
              ((r27 = 0 →
              ((0 : Int) = 0 ∨ (0 : Int) = 1) ∧ Q 0 v27) ∧
              (¬ r27 = 0 →
              ((1 : Int) = 0 ∨ (1 : Int) = 1) ∧ Q 1 v27))))))))) ∧
        (a2 = 6 →
        ((0 : Int) = 0 ∨ (0 : Int) = 1) ∧ Q 0 v1)))))))))) : zx l G 1 (d + 1) h_LR_unit k_LR_unit 115 Q QX K 300 (k_LR_unit.drop 0) [(2, a0), (2, a1), (0, a2), (0, a3), (3, 0), (3, 0)] [] v 115 := h
set_option maxRecDepth 100000 in
theorem sg_LR_compares_0 {l : Launch} {G : zG} {d : Nat} {Q : Int → zH → Prop} {QX : Nat → zH → Prop} {K : Nat → List zV → List zV → zH → Nat → Prop} {a0 : Int} {v : zH} (h : ((a0 = 61 →
  ((1 : Int) = 0 ∨ (1 : Int) = 1) ∧ Q 1 v) ∧
  (¬ a0 = 61 →
  ((a0 = 60 →
    ((1 : Int) = 0 ∨ (1 : Int) = 1) ∧ Q 1 v) ∧
    (¬ a0 = 60 →
    ((¬ a0 = 62 →
      ((0 : Int) = 0 ∨ (0 : Int) = 1) ∧ Q 0 v) ∧
      (a0 = 62 →
      ((1 : Int) = 0 ∨ (1 : Int) = 1) ∧ Q 1 v))))))) : zx l G 1 (d + 1) h_LR_compares k_LR_compares 115 Q QX K 300 (k_LR_compares.drop 0) [(0, a0)] [] v 115 := h
set_option maxRecDepth 100000 in
theorem sg_LR_sum_0 {l : Launch} {G : zG} {d : Nat} {Q : Int → zH → Prop} {QX : Nat → zH → Prop} {K : Nat → List zV → List zV → zH → Nat → Prop} {a0 a1 a2 : Int} {v : zH} (h : K 4 [(2, a0), (2, a1), (0, a2), (0, 43), (0, 0)] [] v 115) : zx l G 1 (d + 1) h_LR_sum k_LR_sum 115 Q QX K 300 (k_LR_sum.drop 0) [(2, a0), (2, a1), (0, a2), (3, 0), (3, 0)] [] v 115 := h
set_option maxRecDepth 100000 in
theorem sg_LR_sum_4 {l : Launch} {G : zG} {d : Nat} {Q : Int → zH → Prop} {QX : Nat → zH → Prop} {K : Nat → List zV → List zV → zH → Nat → Prop} {a0 a1 a2 a3 a4 : Int} {v : zH} (h : zCL a0 = 3 ∧ zCL (a0 + (-3)) = 6 ∧ (((v (a0 + (-3)) 1) < a4 →
  ((0 : Int) = 0 ∨ (0 : Int) = 1) ∧ Q 0 v) ∧
  (a4 ≤ (v (a0 + (-3)) 1) →
  zCL a0 = 3 ∧ zC l G 1 d h_LR_term [(2, a0), (2, a1), (0, a2)] v 115 (fun r1 v1 =>
    ((¬ r1 = 0 →
    ((a4 ≤ 0 →
      zCL a0 = 3 ∧ zC l G 1 d h_LR_sign [(2, a0)] v1 115 (fun r2 v2 =>
        ((r2 = 43 →
        zCL a0 = 3 ∧ zI ((v2 a0 1) + 1) ∧ zCL a0 = 3 ∧ zI (a4 + 1) ∧ K 4 [(2, a0), (2, a1), (0, a2), (0, r2), (0, a4 + 1)] [] (zupd v2 a0 1 ((v2 a0 1) + 1)) 115) ∧
        (¬ r2 = 43 →
        ((r2 = 45 →
          zCL a0 = 3 ∧ zI ((v2 a0 1) + 1) ∧ zCL a0 = 3 ∧ zI (a4 + 1) ∧ K 4 [(2, a0), (2, a1), (0, a2), (0, r2), (0, a4 + 1)] [] (zupd v2 a0 1 ((v2 a0 1) + 1)) 115) ∧
          (¬ r2 = 45 →
          ((1 : Int) = 0 ∨ (1 : Int) = 1) ∧ Q 1 v2)))))) ∧
      (0 < a4 →
      zCL a1 = 2 ∧ zC l G 1 d h_La_addSign [(2, a1), (0, a3)] v1 115 (fun _ v3 =>
        zCL a0 = 3 ∧ zC l G 1 d h_LR_sign [(2, a0)] v3 115 (fun r4 v4 =>
        ((r4 = 43 →
        zCL a0 = 3 ∧ zI ((v4 a0 1) + 1) ∧ zCL a0 = 3 ∧ zI (a4 + 1) ∧ K 4 [(2, a0), (2, a1), (0, a2), (0, r4), (0, a4 + 1)] [] (zupd v4 a0 1 ((v4 a0 1) + 1)) 115) ∧
        (¬ r4 = 43 →
        ((r4 = 45 →
          zCL a0 = 3 ∧ zI ((v4 a0 1) + 1) ∧ zCL a0 = 3 ∧ zI (a4 + 1) ∧ K 4 [(2, a0), (2, a1), (0, a2), (0, r4), (0, a4 + 1)] [] (zupd v4 a0 1 ((v4 a0 1) + 1)) 115) ∧
          (¬ r4 = 45 →
          ((1 : Int) = 0 ∨ (1 : Int) = 1) ∧ Q 1 v4))))))))) ∧
    (r1 = 0 →
    ((0 : Int) = 0 ∨ (0 : Int) = 1) ∧ Q 0 v1)))))) : zx l G 1 (d + 1) h_LR_sum k_LR_sum 115 Q QX K 300 (k_LR_sum.drop 4) [(2, a0), (2, a1), (0, a2), (0, a3), (0, a4)] [] v 115 := h
set_option maxRecDepth 100000 in
theorem sg_LR_term_0 {l : Launch} {G : zG} {d : Nat} {Q : Int → zH → Prop} {QX : Nat → zH → Prop} {K : Nat → List zV → List zV → zH → Nat → Prop} {a0 a1 a2 : Int} {v : zH} (h : K 4 [(2, a0), (2, a1), (0, a2), (0, 42), (0, 0)] [] v 115) : zx l G 1 (d + 1) h_LR_term k_LR_term 115 Q QX K 300 (k_LR_term.drop 0) [(2, a0), (2, a1), (0, a2), (3, 0), (3, 0)] [] v 115 := h
set_option maxRecDepth 100000 in
theorem sg_LR_term_4 {l : Launch} {G : zG} {d : Nat} {Q : Int → zH → Prop} {QX : Nat → zH → Prop} {K : Nat → List zV → List zV → zH → Nat → Prop} {a0 a1 a2 a3 a4 : Int} {v : zH} (h : zCL a0 = 3 ∧ zCL (a0 + (-3)) = 6 ∧ (((v (a0 + (-3)) 1) < a4 →
  ((0 : Int) = 0 ∨ (0 : Int) = 1) ∧ Q 0 v) ∧
  (a4 ≤ (v (a0 + (-3)) 1) →
  zCL a0 = 3 ∧ zC l G 1 d h_LR_atom [(2, a0), (2, a1), (0, a2)] v 115 (fun r1 v1 =>
    ((¬ r1 = 0 →
    ((a4 ≤ 0 →
      zCL a0 = 3 ∧ zC l G 1 d h_LR_sign [(2, a0)] v1 115 (fun r2 v2 =>
        ((r2 = 42 →
        zCL a0 = 3 ∧ zI ((v2 a0 1) + 1) ∧ zCL a0 = 3 ∧ zI (a4 + 1) ∧ K 4 [(2, a0), (2, a1), (0, a2), (0, r2), (0, a4 + 1)] [] (zupd v2 a0 1 ((v2 a0 1) + 1)) 115) ∧
        (¬ r2 = 42 →
        ((r2 = 47 →
          zCL a0 = 3 ∧ zI ((v2 a0 1) + 1) ∧ zCL a0 = 3 ∧ zI (a4 + 1) ∧ K 4 [(2, a0), (2, a1), (0, a2), (0, r2), (0, a4 + 1)] [] (zupd v2 a0 1 ((v2 a0 1) + 1)) 115) ∧
          (¬ r2 = 47 →
          ((1 : Int) = 0 ∨ (1 : Int) = 1) ∧ Q 1 v2)))))) ∧
      (0 < a4 →
      zCL a1 = 2 ∧ zC l G 1 d h_La_addSign [(2, a1), (0, a3)] v1 115 (fun _ v3 =>
        zCL a0 = 3 ∧ zC l G 1 d h_LR_sign [(2, a0)] v3 115 (fun r4 v4 =>
        ((r4 = 42 →
        zCL a0 = 3 ∧ zI ((v4 a0 1) + 1) ∧ zCL a0 = 3 ∧ zI (a4 + 1) ∧ K 4 [(2, a0), (2, a1), (0, a2), (0, r4), (0, a4 + 1)] [] (zupd v4 a0 1 ((v4 a0 1) + 1)) 115) ∧
        (¬ r4 = 42 →
        ((r4 = 47 →
          zCL a0 = 3 ∧ zI ((v4 a0 1) + 1) ∧ zCL a0 = 3 ∧ zI (a4 + 1) ∧ K 4 [(2, a0), (2, a1), (0, a2), (0, r4), (0, a4 + 1)] [] (zupd v4 a0 1 ((v4 a0 1) + 1)) 115) ∧
          (¬ r4 = 47 →
          ((1 : Int) = 0 ∨ (1 : Int) = 1) ∧ Q 1 v4))))))))) ∧
    (r1 = 0 →
    ((0 : Int) = 0 ∨ (0 : Int) = 1) ∧ Q 0 v1)))))) : zx l G 1 (d + 1) h_LR_term k_LR_term 115 Q QX K 300 (k_LR_term.drop 4) [(2, a0), (2, a1), (0, a2), (0, a3), (0, a4)] [] v 115 := h
set_option maxRecDepth 100000 in
theorem sg_LR_atom_0 {l : Launch} {G : zG} {d : Nat} {Q : Int → zH → Prop} {QX : Nat → zH → Prop} {K : Nat → List zV → List zV → zH → Nat → Prop} {a0 a1 a2 : Int} {v : zH} (h : zCL a0 = 3 ∧ zC l G 1 d h_LR_sign [(2, a0)] v 115 (fun r1 v1 =>
  ((r1 = 91 →
  ((¬ a2 = 6 →
    zCL a0 = 3 ∧ zI ((v1 a0 1) + 1) ∧ zCL a0 = 3 ∧ zI (a2 + 1) ∧ zCL a0 = 3 ∧ zC l G 1 d h_LR_sum [(2, a0), (2, a1), (0, a2 + 1)] (zupd v1 a0 1 ((v1 a0 1) + 1)) 115 (fun r2 v2 =>
      ((r2 = 0 →
      ((0 : Int) = 0 ∨ (0 : Int) = 1) ∧ Q 0 v2) ∧
      (¬ r2 = 0 →
      zCL a0 = 3 ∧ zC l G 1 d h_LR_takes [(2, a0), (0, 93)] v2 115 (fun r3 v3 =>
        ((r3 = 0 →
        ((0 : Int) = 0 ∨ (0 : Int) = 1) ∧ Q 0 v3) ∧
        (¬ r3 = 0 →
        ((1 : Int) = 0 ∨ (1 : Int) = 1) ∧ Q 1 v3))))))) ∧
    (a2 = 6 →
    ((0 : Int) = 0 ∨ (0 : Int) = 1) ∧ Q 0 v1))) ∧
  (¬ r1 = 91 → ((r1 = 99 →
  zCL a0 = 3 ∧ zI ((v1 a0 1) + 1) ∧ zCL a0 = 3 ∧ zCL a1 = 2 ∧ zC l G 1 d h_La_addSign [(2, a1), (0, r1)] (zupd v1 a0 1 ((v1 a0 1) + 1)) 115 (fun _ v4 =>
    ((1 : Int) = 0 ∨ (1 : Int) = 1) ∧ Q 1 v4)) ∧
  (¬ r1 = 99 → ((r1 = 100 →
  zCL a0 = 3 ∧ zI ((v1 a0 1) + 1) ∧ zCL a0 = 3 ∧ zCL a1 = 2 ∧ zC l G 1 d h_La_addSign [(2, a1), (0, r1)] (zupd v1 a0 1 ((v1 a0 1) + 1)) 115 (fun _ v5 =>
    ((1 : Int) = 0 ∨ (1 : Int) = 1) ∧ Q 1 v5)) ∧
  (¬ r1 = 100 → ((r1 = 104 →
  zCL a0 = 3 ∧ zI ((v1 a0 1) + 1) ∧ zCL a0 = 3 ∧ zCL a1 = 2 ∧ zC l G 1 d h_La_addSign [(2, a1), (0, r1)] (zupd v1 a0 1 ((v1 a0 1) + 1)) 115 (fun _ v6 =>
    ((1 : Int) = 0 ∨ (1 : Int) = 1) ∧ Q 1 v6)) ∧
  (¬ r1 = 104 → ((r1 = 114 →
  zCL a0 = 3 ∧ zI ((v1 a0 1) + 1) ∧ zCL a0 = 3 ∧ zCL a1 = 2 ∧ zC l G 1 d h_La_addSign [(2, a1), (0, r1)] (zupd v1 a0 1 ((v1 a0 1) + 1)) 115 (fun _ v7 =>
    ((1 : Int) = 0 ∨ (1 : Int) = 1) ∧ Q 1 v7)) ∧
  (¬ r1 = 114 → ((r1 = 115 →
  zCL a0 = 3 ∧ zI ((v1 a0 1) + 1) ∧ zCL a0 = 3 ∧ zCL a1 = 2 ∧ zC l G 1 d h_La_addSign [(2, a1), (0, r1)] (zupd v1 a0 1 ((v1 a0 1) + 1)) 115 (fun _ v8 =>
    ((1 : Int) = 0 ∨ (1 : Int) = 1) ∧ Q 1 v8)) ∧
  (¬ r1 = 115 → 
  zCL a0 = 3 ∧ zC l G 1 d h_LR_digits [(2, a0), (0, 4)] v1 115 (fun r9 v9 =>
    ((¬ r9 = ((-1)) →
    zCL a1 = 2 ∧ zC l G 1 d h_La_addNumber [(2, a1), (0, r9)] v9 115 (fun _ v10 =>
      ((1 : Int) = 0 ∨ (1 : Int) = 1) ∧ Q 1 v10)) ∧
    (r9 = ((-1)) →
    ((0 : Int) = 0 ∨ (0 : Int) = 1) ∧ Q 0 v9))))))))))))))))) : zx l G 1 (d + 1) h_LR_atom k_LR_atom 115 Q QX K 300 (k_LR_atom.drop 0) [(2, a0), (2, a1), (0, a2), (3, 0), (3, 0)] [] v 115 := h
set_option maxRecDepth 100000 in
theorem sg_Sk_draft_0 {l : Launch} {G : zG} {d : Nat} {Q : Int → zH → Prop} {QX : Nat → zH → Prop} {K : Nat → List zV → List zV → zH → Nat → Prop} {a0 : Int} {v : zH} (h : zCL a0 = 5 ∧ zCL a0 = 5 ∧ zCL (a0 + 1) = 23 ∧ (0 ≤ (min (v a0 3) 4) ∧ (min (v a0 3) 4) < zLN (a0 + 1)) ∧ v (a0 + 1) (min (v a0 3) 4) ≠ -1000 ∧ Q (v (a0 + 1) (min (v a0 3) 4)) v) : zx l G 1 (d + 1) h_Sk_draft k_Sk_draft 115 Q QX K 300 (k_Sk_draft.drop 0) [(2, a0)] [] v 115 := h
set_option maxRecDepth 100000 in
theorem sg_Sk_obey_0 {l : Launch} {G : zG} {d : Nat} {Q : Int → zH → Prop} {QX : Nat → zH → Prop} {K : Nat → List zV → List zV → zH → Nat → Prop} {a0 a1 : Int} {v : zH} (h : zCL a0 = 5 ∧ K 5 [(2, a0), (3, 0), (0, 0)] [] (zupd v a0 4 a1) 115) : zx l G 1 (d + 1) h_Sk_obey k_Sk_obey 115 Q QX K 300 (k_Sk_obey.drop 0) [(2, a0), (0, a1), (3, 0)] [] v 115 := h
set_option maxRecDepth 100000 in
theorem sg_Sk_obey_5 {l : Launch} {G : zG} {d : Nat} {Q : Int → zH → Prop} {QX : Nat → zH → Prop} {K : Nat → List zV → List zV → zH → Nat → Prop} {a0 a2 : Int} {v : zH} (h : ((4 ≤ a2 →
  Q 0 v) ∧
  (a2 < 4 →
  zCL a0 = 5 ∧ zCL (a0 + 3) = 20 ∧ (0 ≤ a2 ∧ a2 < zLN (a0 + 3)) ∧ zI (a2 + 1) ∧ K 5 [(2, a0), (3, 0), (0, a2 + 1)] [] (zupd v (a0 + 3) a2 ((-1))) 115))) : zx l G 1 (d + 1) h_Sk_obey k_Sk_obey 115 Q QX K 300 (k_Sk_obey.drop 5) [(2, a0), (3, 0), (0, a2)] [] v 115 := h
set_option maxRecDepth 100000 in
theorem sg_Sk_rainsAt_0 {l : Launch} {G : zG} {d : Nat} {Q : Int → zH → Prop} {QX : Nat → zH → Prop} {K : Nat → List zV → List zV → zH → Nat → Prop} {a0 a1 : Int} {v : zH} (h : zCL a0 = 5 ∧ ((¬ (zand (zshr (v a0 5) (a1.tmod 24)) 1) = 1 →
  ((0 : Int) = 0 ∨ (0 : Int) = 1) ∧ Q 0 v) ∧
  ((zand (zshr (v a0 5) (a1.tmod 24)) 1) = 1 →
  ((1 : Int) = 0 ∨ (1 : Int) = 1) ∧ Q 1 v))) : zx l G 1 (d + 1) h_Sk_rainsAt k_Sk_rainsAt 115 Q QX K 300 (k_Sk_rainsAt.drop 0) [(2, a0), (0, a1)] [] v 115 := h
set_option maxRecDepth 100000 in
theorem sg_Sk_sunOn_0 {l : Launch} {G : zG} {d : Nat} {Q : Int → zH → Prop} {QX : Nat → zH → Prop} {K : Nat → List zV → List zV → zH → Nat → Prop} {a0 a1 a2 a3 a4 : Int} {v : zH} (h : zCL a0 = 5 ∧ (((v a0 4) < 0 →
  (((a1.tmod 24) < 8 →
    Q 0 v) ∧
    (8 ≤ (a1.tmod 24) →
    ((15 < (a1.tmod 24) →
      Q 0 v) ∧
      ((a1.tmod 24) ≤ 15 →
      Q 5 v))))) ∧
  (0 ≤ (v a0 4) →
  zCL a0 = 5 ∧ zCL a0 = 5 ∧ zCL (a0 + 1) = 23 ∧ (((v a0 4) < (zLN (a0 + 1)) →
    zCL a0 = 5 ∧ zCL a0 = 5 ∧ zCL (a0 + 1) = 23 ∧ (0 ≤ (v a0 4) ∧ (v a0 4) < zLN (a0 + 1)) ∧ v (a0 + 1) (v a0 4) ≠ -1000 ∧ zCL (v (a0 + 1) (v a0 4)) = 2 ∧ (((v (v (a0 + 1) (v a0 4)) 3) = 0 →
      K 37 [(2, a0), (0, a1), (0, a2), (0, a3), (0, a4), (0, a1.tmod 24), (2, v (a0 + 1) (v a0 4)), (3, 0), (3, 0), (3, 0), (3, 0)] [(0, 0)] v 115) ∧
      (¬ (v (v (a0 + 1) (v a0 4)) 3) = 0 →
      K 37 [(2, a0), (0, a1), (0, a2), (0, a3), (0, a4), (0, a1.tmod 24), (2, v (a0 + 1) (v a0 4)), (3, 0), (3, 0), (3, 0), (3, 0)] [(0, a1.tdiv 24)] v 115))) ∧
    ((zLN (a0 + 1)) ≤ (v a0 4) →
    (((a1.tmod 24) < 8 →
      Q 0 v) ∧
      (8 ≤ (a1.tmod 24) →
      ((15 < (a1.tmod 24) →
        Q 0 v) ∧
        ((a1.tmod 24) ≤ 15 →
        Q 5 v))))))))) : zx l G 1 (d + 1) h_Sk_sunOn k_Sk_sunOn 115 Q QX K 300 (k_Sk_sunOn.drop 0) [(2, a0), (0, a1), (0, a2), (0, a3), (0, a4), (3, 0), (3, 0), (3, 0), (3, 0), (3, 0), (3, 0)] [] v 115 := h
set_option maxRecDepth 100000 in
theorem sg_Sk_sunOn_37 {l : Launch} {G : zG} {d : Nat} {Q : Int → zH → Prop} {QX : Nat → zH → Prop} {K : Nat → List zV → List zV → zH → Nat → Prop} {a0 a1 a2 a3 a4 a5 a6 s0 : Int} {v : zH} (h : zI ((s0.tmod 4) * 2304) ∧ zI (a5 * 24) ∧ zI (a2 * 6) ∧ zI ((a5 * 24) + (a2 * 6)) ∧ zI (((a5 * 24) + (a2 * 6)) + a3) ∧ zI ((((a5 * 24) + (a2 * 6)) + a3) * 4) ∧ zI (((s0.tmod 4) * 2304) + ((((a5 * 24) + (a2 * 6)) + a3) * 4)) ∧ zI ((((s0.tmod 4) * 2304) + ((((a5 * 24) + (a2 * 6)) + a3) * 4)) + a4) ∧ ((((((s0.tmod 4) * 2304) + ((((a5 * 24) + (a2 * 6)) + a3) * 4)) + a4) < 0 →
  Q 0 v) ∧
  (0 ≤ ((((s0.tmod 4) * 2304) + ((((a5 * 24) + (a2 * 6)) + a3) * 4)) + a4) →
  zCL a0 = 5 ∧ (zCL (a0 + 2) = 20 ∨ zCL (a0 + 2) = 21) ∧ ((((((s0.tmod 4) * 2304) + ((((a5 * 24) + (a2 * 6)) + a3) * 4)) + a4) < (zLN (a0 + 2)) →
    zCL a0 = 5 ∧ zCL (a0 + 3) = 20 ∧ (0 ≤ (s0.tmod 4) ∧ (s0.tmod 4) < zLN (a0 + 3)) ∧ (((v (a0 + 3) (s0.tmod 4)) = s0 →
      K 79 [(2, a0), (0, a1), (0, a2), (0, a3), (0, a4), (3, 0), (2, a6), (3, 0), (3, 0), (0, (((s0.tmod 4) * 2304) + ((((a5 * 24) + (a2 * 6)) + a3) * 4)) + a4), (3, 0)] [] v 115) ∧
      (¬ (v (a0 + 3) (s0.tmod 4)) = s0 →
      zCL a0 = 5 ∧ zC l G 1 d h_Sk_turnTo [(2, a0), (0, s0.tmod 4), (0, s0)] v 115 (fun _ v1 =>
        K 79 [(2, a0), (0, a1), (0, a2), (0, a3), (0, a4), (3, 0), (2, a6), (3, 0), (3, 0), (0, (((s0.tmod 4) * 2304) + ((((a5 * 24) + (a2 * 6)) + a3) * 4)) + a4), (3, 0)] [] v1 115)))) ∧
    ((zLN (a0 + 2)) ≤ ((((s0.tmod 4) * 2304) + ((((a5 * 24) + (a2 * 6)) + a3) * 4)) + a4) →
    Q 0 v))))) : zx l G 1 (d + 1) h_Sk_sunOn k_Sk_sunOn 115 Q QX K 300 (k_Sk_sunOn.drop 37) [(2, a0), (0, a1), (0, a2), (0, a3), (0, a4), (0, a5), (2, a6), (3, 0), (3, 0), (3, 0), (3, 0)] [(0, s0)] v 115 := h
set_option maxRecDepth 100000 in
theorem sg_Sk_sunOn_79 {l : Launch} {G : zG} {d : Nat} {Q : Int → zH → Prop} {QX : Nat → zH → Prop} {K : Nat → List zV → List zV → zH → Nat → Prop} {a0 a1 a2 a3 a4 a6 a9 : Int} {v : zH} (h : zCL a0 = 5 ∧ zCL (a0 + 2) = 20 ∧ (0 ≤ a9 ∧ a9 < zLN (a0 + 2)) ∧ ((¬ (v (a0 + 2) a9) = ((-1)) →
  K 106 [(2, a0), (3, 0), (3, 0), (3, 0), (3, 0), (3, 0), (3, 0), (3, 0), (3, 0), (0, a9), (3, 0)] [] v 115) ∧
  ((v (a0 + 2) a9) = ((-1)) →
  zCL a6 = 2 ∧ zC l G 1 d h_La_worth [(2, a6), (0, a1), (0, a2), (0, a3), (0, a4)] v 115 (fun r1 v1 =>
    zCL a0 = 5 ∧ ((0 ≤ r1 →
    ((r1 ≤ 9 →
      zCL (a0 + 2) = 20 ∧ (0 ≤ a9 ∧ a9 < zLN (a0 + 2)) ∧ K 106 [(2, a0), (3, 0), (3, 0), (3, 0), (3, 0), (3, 0), (3, 0), (3, 0), (3, 0), (0, a9), (3, 0)] [] (zupd v1 (a0 + 2) a9 r1) 115) ∧
      (9 < r1 →
      zCL (a0 + 2) = 20 ∧ (0 ≤ a9 ∧ a9 < zLN (a0 + 2)) ∧ K 106 [(2, a0), (3, 0), (3, 0), (3, 0), (3, 0), (3, 0), (3, 0), (3, 0), (3, 0), (0, a9), (3, 0)] [] (zupd v1 (a0 + 2) a9 9) 115))) ∧
    (r1 < 0 →
    zCL (a0 + 2) = 20 ∧ (0 ≤ a9 ∧ a9 < zLN (a0 + 2)) ∧ K 106 [(2, a0), (3, 0), (3, 0), (3, 0), (3, 0), (3, 0), (3, 0), (3, 0), (3, 0), (0, a9), (3, 0)] [] (zupd v1 (a0 + 2) a9 0) 115)))))) : zx l G 1 (d + 1) h_Sk_sunOn k_Sk_sunOn 115 Q QX K 300 (k_Sk_sunOn.drop 79) [(2, a0), (0, a1), (0, a2), (0, a3), (0, a4), (3, 0), (2, a6), (3, 0), (3, 0), (0, a9), (3, 0)] [] v 115 := h
set_option maxRecDepth 100000 in
theorem sg_Sk_sunOn_106 {l : Launch} {G : zG} {d : Nat} {Q : Int → zH → Prop} {QX : Nat → zH → Prop} {K : Nat → List zV → List zV → zH → Nat → Prop} {a0 a9 : Int} {v : zH} (h : zCL a0 = 5 ∧ zCL (a0 + 2) = 20 ∧ (0 ≤ a9 ∧ a9 < zLN (a0 + 2)) ∧ Q (v (a0 + 2) a9) v) : zx l G 1 (d + 1) h_Sk_sunOn k_Sk_sunOn 115 Q QX K 300 (k_Sk_sunOn.drop 106) [(2, a0), (3, 0), (3, 0), (3, 0), (3, 0), (3, 0), (3, 0), (3, 0), (3, 0), (0, a9), (3, 0)] [] v 115 := h
set_option maxRecDepth 100000 in
theorem sg_Sk_turnTo_0 {l : Launch} {G : zG} {d : Nat} {Q : Int → zH → Prop} {QX : Nat → zH → Prop} {K : Nat → List zV → List zV → zH → Nat → Prop} {a0 a1 a2 : Int} {v : zH} (h : zCL a0 = 5 ∧ zCL (a0 + 3) = 20 ∧ (0 ≤ a1 ∧ a1 < zLN (a0 + 3)) ∧ zI (a1 * 2304) ∧ K 9 [(2, a0), (0, a1), (3, 0), (0, a1 * 2304)] [] (zupd v (a0 + 3) a1 a2) 115) : zx l G 1 (d + 1) h_Sk_turnTo k_Sk_turnTo 115 Q QX K 300 (k_Sk_turnTo.drop 0) [(2, a0), (0, a1), (0, a2), (3, 0)] [] v 115 := h
set_option maxRecDepth 100000 in
theorem sg_Sk_turnTo_9 {l : Launch} {G : zG} {d : Nat} {Q : Int → zH → Prop} {QX : Nat → zH → Prop} {K : Nat → List zV → List zV → zH → Nat → Prop} {a0 a1 a3 : Int} {v : zH} (h : zI (a1 + 1) ∧ zI ((a1 + 1) * 2304) ∧ ((((a1 + 1) * 2304) ≤ a3 →
  Q 0 v) ∧
  (a3 < ((a1 + 1) * 2304) →
  zCL a0 = 5 ∧ zCL (a0 + 2) = 20 ∧ (0 ≤ a3 ∧ a3 < zLN (a0 + 2)) ∧ zI (a3 + 1) ∧ K 9 [(2, a0), (0, a1), (3, 0), (0, a3 + 1)] [] (zupd v (a0 + 2) a3 ((-1))) 115))) : zx l G 1 (d + 1) h_Sk_turnTo k_Sk_turnTo 115 Q QX K 300 (k_Sk_turnTo.drop 9) [(2, a0), (0, a1), (3, 0), (0, a3)] [] v 115 := h
set_option maxRecDepth 100000 in
theorem sg_Co_begin_0 {l : Launch} {G : zG} {d : Nat} {Q : Int → zH → Prop} {QX : Nat → zH → Prop} {K : Nat → List zV → List zV → zH → Nat → Prop} {a0 a1 : Int} {v : zH} (h : zCL a0 = 0 ∧ K 5 [(2, a0), (2, a1), (0, 0)] [] (zupd v a0 8 0) 115) : zx l G 1 (d + 1) h_Co_begin k_Co_begin 115 Q QX K 300 (k_Co_begin.drop 0) [(2, a0), (2, a1), (3, 0)] [] v 115 := h
set_option maxRecDepth 100000 in
theorem sg_Co_begin_5 {l : Launch} {G : zG} {d : Nat} {Q : Int → zH → Prop} {QX : Nat → zH → Prop} {K : Nat → List zV → List zV → zH → Nat → Prop} {a0 a1 a2 : Int} {v : zH} (h : zCL a1 = 8 ∧ (((v a1 11) ≤ a2 →
  K 26 [(2, a0), (2, a1), (0, 0)] [] v 115) ∧
  (a2 < (v a1 11) →
  zCL a0 = 0 ∧ zCL (a0 + 1) = 20 ∧ (0 ≤ a2 ∧ a2 < zLN (a0 + 1)) ∧ zCL a0 = 0 ∧ zCL a1 = 8 ∧ zCL (a1 + 11) = 20 ∧ (0 ≤ a2 ∧ a2 < zLN (a1 + 11)) ∧ zCL (a0 + 3) = 20 ∧ (0 ≤ a2 ∧ a2 < zLN (a0 + 3)) ∧ zI (a2 + 1) ∧ K 5 [(2, a0), (2, a1), (0, a2 + 1)] [] (zupd (zupd v (a0 + 1) a2 0) (a0 + 3) a2 ((zupd v (a0 + 1) a2 0) (a1 + 11) a2)) 115))) : zx l G 1 (d + 1) h_Co_begin k_Co_begin 115 Q QX K 300 (k_Co_begin.drop 5) [(2, a0), (2, a1), (0, a2)] [] v 115 := h
set_option maxRecDepth 100000 in
theorem sg_Co_begin_26 {l : Launch} {G : zG} {d : Nat} {Q : Int → zH → Prop} {QX : Nat → zH → Prop} {K : Nat → List zV → List zV → zH → Nat → Prop} {a0 a1 a2 : Int} {v : zH} (h : zCL a1 = 8 ∧ zCL (a1 + 3) = 1 ∧ (((v (a1 + 3) 6) ≤ a2 →
  Q 0 v) ∧
  (a2 < (v (a1 + 3) 6) →
  zCL a0 = 0 ∧ zCL a1 = 8 ∧ zCL (a1 + 3) = 1 ∧ zC l G 1 d h_Ki_number [(2, a1 + 3), (0, a2), (0, 2)] v 115 (fun r1 v1 =>
    zCL (a0 + 4) = 20 ∧ (0 ≤ a2 ∧ a2 < zLN (a0 + 4)) ∧ zCL a0 = 0 ∧ zCL a1 = 8 ∧ zCL (a1 + 3) = 1 ∧ zC l G 1 d h_Ki_number [(2, a1 + 3), (0, a2), (0, 3)] (zupd v1 (a0 + 4) a2 r1) 115 (fun r2 v2 =>
    zCL (a0 + 5) = 20 ∧ (0 ≤ a2 ∧ a2 < zLN (a0 + 5)) ∧ zI (a2 + 1) ∧ K 26 [(2, a0), (2, a1), (0, a2 + 1)] [] (zupd v2 (a0 + 5) a2 r2) 115))))) : zx l G 1 (d + 1) h_Co_begin k_Co_begin 115 Q QX K 300 (k_Co_begin.drop 26) [(2, a0), (2, a1), (0, a2)] [] v 115 := h
set_option maxRecDepth 100000 in
theorem sg_Co_follow_0 {l : Launch} {G : zG} {d : Nat} {Q : Int → zH → Prop} {QX : Nat → zH → Prop} {K : Nat → List zV → List zV → zH → Nat → Prop} {a0 a1 : Int} {v : zH} (h : zCL a1 = 0 ∧ zCL a0 = 0 ∧ zCL a1 = 0 ∧ zCL a0 = 0 ∧ (zCL (a1 + 1) = 20 ∧ zCL (a0 + 1) = 20) ∧ (0 ≤ (0 : Int) ∧ 0 ≤ (0 : Int) ∧ 0 ≤ (24 : Int) ∧ 0 + 24 ≤ zLN (a1 + 1) ∧ 0 + 24 ≤ zLN (a0 + 1)) ∧ zCL a1 = 0 ∧ zCL a0 = 0 ∧ (zCL (a1 + 3) = 20 ∧ zCL (a0 + 3) = 20) ∧ (0 ≤ (0 : Int) ∧ 0 ≤ (0 : Int) ∧ 0 ≤ (24 : Int) ∧ 0 + 24 ≤ zLN (a1 + 3) ∧ 0 + 24 ≤ zLN (a0 + 3)) ∧ zCL a1 = 0 ∧ zCL a0 = 0 ∧ (zCL (a1 + 4) = 20 ∧ zCL (a0 + 4) = 20) ∧ (0 ≤ (0 : Int) ∧ 0 ≤ (0 : Int) ∧ 0 ≤ (3 : Int) ∧ 0 + 3 ≤ zLN (a1 + 4) ∧ 0 + 3 ≤ zLN (a0 + 4)) ∧ zCL a1 = 0 ∧ zCL a0 = 0 ∧ (zCL (a1 + 5) = 20 ∧ zCL (a0 + 5) = 20) ∧ (0 ≤ (0 : Int) ∧ 0 ≤ (0 : Int) ∧ 0 ≤ (3 : Int) ∧ 0 + 3 ≤ zLN (a1 + 5) ∧ 0 + 3 ≤ zLN (a0 + 5)) ∧ Q 0 (zcp (zcp (zcp (zcp (zupd v a0 8 (v a1 8)) (a1 + 1) 0 (a0 + 1) 0 24) (a1 + 3) 0 (a0 + 3) 0 24) (a1 + 4) 0 (a0 + 4) 0 3) (a1 + 5) 0 (a0 + 5) 0 3)) : zx l G 1 (d + 1) h_Co_follow k_Co_follow 115 Q QX K 300 (k_Co_follow.drop 0) [(2, a0), (2, a1)] [] v 115 := h
set_option maxRecDepth 100000 in
theorem sg_Co_change_0 {l : Launch} {G : zG} {d : Nat} {Q : Int → zH → Prop} {QX : Nat → zH → Prop} {K : Nat → List zV → List zV → zH → Nat → Prop} {a0 a1 a2 a3 : Int} {v : zH} (h : ((a1 < 0 →
  Q 0 v) ∧
  (0 ≤ a1 →
  ((24 ≤ a1 →
    Q 0 v) ∧
    (a1 < 24 →
    zCL a0 = 0 ∧ zCL (a0 + 3) = 20 ∧ (0 ≤ a1 ∧ a1 < zLN (a0 + 3)) ∧ zCL a0 = 0 ∧ zCL a0 = 0 ∧ zCL (a0 + 1) = 20 ∧ (0 ≤ a1 ∧ a1 < zLN (a0 + 1)) ∧ zCL a3 = 8 ∧ zCL (a3 + 1) = 1 ∧ zC l G 1 d h_Ki_number [(2, a3 + 1), (0, a2), (0, 1)] (zupd v (a0 + 3) a1 a2) 115 (fun r1 v1 =>
      zCL (a0 + 1) = 20 ∧ (0 ≤ a1 ∧ a1 < zLN (a0 + 1)) ∧ Q 0 (zupd v1 (a0 + 1) a1 (min ((zupd v (a0 + 3) a1 a2) (a0 + 1) a1) r1)))))))) : zx l G 1 (d + 1) h_Co_change k_Co_change 115 Q QX K 300 (k_Co_change.drop 0) [(2, a0), (0, a1), (0, a2), (2, a3)] [] v 115 := h
set_option maxRecDepth 100000 in
theorem sg_Co_burns_0 {l : Launch} {G : zG} {d : Nat} {Q : Int → zH → Prop} {QX : Nat → zH → Prop} {K : Nat → List zV → List zV → zH → Nat → Prop} {a0 a1 : Int} {v : zH} (h : zCL a0 = 0 ∧ zCL a0 = 0 ∧ zCL (a0 + 4) = 20 ∧ (0 ≤ a1 ∧ a1 < zLN (a0 + 4)) ∧ zCL a0 = 0 ∧ zCL (a0 + 5) = 20 ∧ (0 ≤ a1 ∧ a1 < zLN (a0 + 5)) ∧ (((v (a0 + 5) a1) < (v (a0 + 4) a1) →
  zCL a0 = 0 ∧ zCL (a0 + 4) = 20 ∧ (0 ≤ a1 ∧ a1 < zLN (a0 + 4)) ∧ (((v (a0 + 4) a1) ≤ ((v a0 8).tmod 24) →
    ((1 : Int) = 0 ∨ (1 : Int) = 1) ∧ Q 1 v) ∧
    (((v a0 8).tmod 24) < (v (a0 + 4) a1) →
    zCL a0 = 0 ∧ zCL (a0 + 5) = 20 ∧ (0 ≤ a1 ∧ a1 < zLN (a0 + 5)) ∧ (((v (a0 + 5) a1) ≤ ((v a0 8).tmod 24) →
      ((0 : Int) = 0 ∨ (0 : Int) = 1) ∧ Q 0 v) ∧
      (((v a0 8).tmod 24) < (v (a0 + 5) a1) →
      ((1 : Int) = 0 ∨ (1 : Int) = 1) ∧ Q 1 v))))) ∧
  ((v (a0 + 4) a1) ≤ (v (a0 + 5) a1) →
  zCL a0 = 0 ∧ zCL (a0 + 4) = 20 ∧ (0 ≤ a1 ∧ a1 < zLN (a0 + 4)) ∧ ((((v a0 8).tmod 24) < (v (a0 + 4) a1) →
    ((0 : Int) = 0 ∨ (0 : Int) = 1) ∧ Q 0 v) ∧
    ((v (a0 + 4) a1) ≤ ((v a0 8).tmod 24) →
    zCL a0 = 0 ∧ zCL (a0 + 5) = 20 ∧ (0 ≤ a1 ∧ a1 < zLN (a0 + 5)) ∧ (((v (a0 + 5) a1) ≤ ((v a0 8).tmod 24) →
      ((0 : Int) = 0 ∨ (0 : Int) = 1) ∧ Q 0 v) ∧
      (((v a0 8).tmod 24) < (v (a0 + 5) a1) →
      ((1 : Int) = 0 ∨ (1 : Int) = 1) ∧ Q 1 v))))))) : zx l G 1 (d + 1) h_Co_burns k_Co_burns 115 Q QX K 300 (k_Co_burns.drop 0) [(2, a0), (0, a1), (3, 0)] [] v 115 := h
set_option maxRecDepth 100000 in
theorem sg_Co_givenBy_0 {l : Launch} {G : zG} {d : Nat} {Q : Int → zH → Prop} {QX : Nat → zH → Prop} {K : Nat → List zV → List zV → zH → Nat → Prop} {a0 a1 a2 : Int} {v : zH} (h : zCL a0 = 0 ∧ zCL (a0 + 1) = 20 ∧ (0 ≤ a1 ∧ a1 < zLN (a0 + 1)) ∧ zCL a2 = 8 ∧ zCL a0 = 0 ∧ zCL (a0 + 3) = 20 ∧ (0 ≤ a1 ∧ a1 < zLN (a0 + 3)) ∧ zCL (a2 + 1) = 1 ∧ zC l G 1 d h_Ki_number [(2, a2 + 1), (0, v (a0 + 3) a1), (0, 2)] v 115 (fun r1 v1 =>
  zI ((v (a0 + 1) a1) * r1) ∧ Q (((v (a0 + 1) a1) * r1).tdiv 10) v1)) : zx l G 1 (d + 1) h_Co_givenBy k_Co_givenBy 115 Q QX K 300 (k_Co_givenBy.drop 0) [(2, a0), (0, a1), (2, a2)] [] v 115 := h
set_option maxRecDepth 100000 in
theorem sg_Co_step_0 {l : Launch} {G : zG} {d : Nat} {Q : Int → zH → Prop} {QX : Nat → zH → Prop} {K : Nat → List zV → List zV → zH → Nat → Prop} {a0 a1 a2 : Int} {v : zH} (h : zCL a0 = 0 ∧ zCL a2 = 5 ∧ zC l G 1 d h_Sk_rainsAt [(2, a2), (0, v a0 8)] v 115 (fun r1 v1 =>
  K 7 [(2, a0), (2, a1), (2, a2), (0, r1), (0, 0), (3, 0), (3, 0)] [] v1 115)) : zx l G 1 (d + 1) h_Co_step k_Co_step 115 Q QX K 300 (k_Co_step.drop 0) [(2, a0), (2, a1), (2, a2), (3, 0), (3, 0), (3, 0), (3, 0)] [] v 115 := h
set_option maxRecDepth 100000 in
theorem sg_Co_step_7 {l : Launch} {G : zG} {d : Nat} {Q : Int → zH → Prop} {QX : Nat → zH → Prop} {K : Nat → List zV → List zV → zH → Nat → Prop} {a0 a1 a2 a3 a4 : Int} {v : zH} (h : zCL a1 = 8 ∧ (((v a1 11) ≤ a4 →
  K 78 [(2, a0), (2, a1), (3, 0), (0, a3), (0, 0), (3, 0), (3, 0)] [] v 115) ∧
  (a4 < (v a1 11) →
  zCL a0 = 0 ∧ zCL a0 = 0 ∧ zC l G 1 d h_Co_givenBy [(2, a0), (0, a4), (2, a1)] v 115 (fun r1 v1 =>
    zCL (a0 + 8) = 20 ∧ (0 ≤ a4 ∧ a4 < zLN (a0 + 8)) ∧ zCL a0 = 0 ∧ zCL a0 = 0 ∧ zCL (a0 + 8) = 20 ∧ (0 ≤ a4 ∧ a4 < zLN (a0 + 8)) ∧ zCL (a0 + 2) = 20 ∧ (0 ≤ a4 ∧ a4 < zLN (a0 + 2)) ∧ zCL a0 = 0 ∧ zCL (a0 + 1) = 20 ∧ (0 ≤ a4 ∧ a4 < zLN (a0 + 1)) ∧ zCL a0 = 0 ∧ zCL (a0 + 8) = 20 ∧ (0 ≤ a4 ∧ a4 < zLN (a0 + 8)) ∧ zI (((zupd (zupd v1 (a0 + 8) a4 r1) (a0 + 2) a4 ((zupd v1 (a0 + 8) a4 r1) (a0 + 8) a4)) (a0 + 1) a4) - ((zupd (zupd v1 (a0 + 8) a4 r1) (a0 + 2) a4 ((zupd v1 (a0 + 8) a4 r1) (a0 + 8) a4)) (a0 + 8) a4)) ∧ zCL (a0 + 1) = 20 ∧ (0 ≤ a4 ∧ a4 < zLN (a0 + 1)) ∧ ((¬ a3 = 0 →
    zI (a4 + 1) ∧ K 7 [(2, a0), (2, a1), (2, a2), (0, a3), (0, a4 + 1), (3, 0), (3, 0)] [] (zupd (zupd (zupd v1 (a0 + 8) a4 r1) (a0 + 2) a4 ((zupd v1 (a0 + 8) a4 r1) (a0 + 8) a4)) (a0 + 1) a4 (((zupd (zupd v1 (a0 + 8) a4 r1) (a0 + 2) a4 ((zupd v1 (a0 + 8) a4 r1) (a0 + 8) a4)) (a0 + 1) a4) - ((zupd (zupd v1 (a0 + 8) a4 r1) (a0 + 2) a4 ((zupd v1 (a0 + 8) a4 r1) (a0 + 8) a4)) (a0 + 8) a4))) 115) ∧
    (a3 = 0 →
    zCL a0 = 0 ∧ zCL a1 = 8 ∧ zCL (a1 + 9) = 20 ∧ (0 ≤ a4 ∧ a4 < zLN (a1 + 9)) ∧ zCL a1 = 8 ∧ zCL (a1 + 10) = 20 ∧ (0 ≤ a4 ∧ a4 < zLN (a1 + 10)) ∧ zCL a0 = 0 ∧ zCL (a0 + 3) = 20 ∧ (0 ≤ a4 ∧ a4 < zLN (a0 + 3)) ∧ zCL a2 = 5 ∧ zC l G 1 d h_Sk_sunOn [(2, a2), (0, (zupd (zupd (zupd v1 (a0 + 8) a4 r1) (a0 + 2) a4 ((zupd v1 (a0 + 8) a4 r1) (a0 + 8) a4)) (a0 + 1) a4 (((zupd (zupd v1 (a0 + 8) a4 r1) (a0 + 2) a4 ((zupd v1 (a0 + 8) a4 r1) (a0 + 8) a4)) (a0 + 1) a4) - ((zupd (zupd v1 (a0 + 8) a4 r1) (a0 + 2) a4 ((zupd v1 (a0 + 8) a4 r1) (a0 + 8) a4)) (a0 + 8) a4))) a0 8), (0, (zupd (zupd (zupd v1 (a0 + 8) a4 r1) (a0 + 2) a4 ((zupd v1 (a0 + 8) a4 r1) (a0 + 8) a4)) (a0 + 1) a4 (((zupd (zupd v1 (a0 + 8) a4 r1) (a0 + 2) a4 ((zupd v1 (a0 + 8) a4 r1) (a0 + 8) a4)) (a0 + 1) a4) - ((zupd (zupd v1 (a0 + 8) a4 r1) (a0 + 2) a4 ((zupd v1 (a0 + 8) a4 r1) (a0 + 8) a4)) (a0 + 8) a4))) (a1 + 9) a4), (0, (zupd (zupd (zupd v1 (a0 + 8) a4 r1) (a0 + 2) a4 ((zupd v1 (a0 + 8) a4 r1) (a0 + 8) a4)) (a0 + 1) a4 (((zupd (zupd v1 (a0 + 8) a4 r1) (a0 + 2) a4 ((zupd v1 (a0 + 8) a4 r1) (a0 + 8) a4)) (a0 + 1) a4) - ((zupd (zupd v1 (a0 + 8) a4 r1) (a0 + 2) a4 ((zupd v1 (a0 + 8) a4 r1) (a0 + 8) a4)) (a0 + 8) a4))) (a1 + 10) a4), (0, (zupd (zupd (zupd v1 (a0 + 8) a4 r1) (a0 + 2) a4 ((zupd v1 (a0 + 8) a4 r1) (a0 + 8) a4)) (a0 + 1) a4 (((zupd (zupd v1 (a0 + 8) a4 r1) (a0 + 2) a4 ((zupd v1 (a0 + 8) a4 r1) (a0 + 8) a4)) (a0 + 1) a4) - ((zupd (zupd v1 (a0 + 8) a4 r1) (a0 + 2) a4 ((zupd v1 (a0 + 8) a4 r1) (a0 + 8) a4)) (a0 + 8) a4))) (a0 + 3) a4)] (zupd (zupd (zupd v1 (a0 + 8) a4 r1) (a0 + 2) a4 ((zupd v1 (a0 + 8) a4 r1) (a0 + 8) a4)) (a0 + 1) a4 (((zupd (zupd v1 (a0 + 8) a4 r1) (a0 + 2) a4 ((zupd v1 (a0 + 8) a4 r1) (a0 + 8) a4)) (a0 + 1) a4) - ((zupd (zupd v1 (a0 + 8) a4 r1) (a0 + 2) a4 ((zupd v1 (a0 + 8) a4 r1) (a0 + 8) a4)) (a0 + 8) a4))) 115 (fun r2 v2 =>
      zCL a0 = 0 ∧ zCL (a0 + 1) = 20 ∧ (0 ≤ a4 ∧ a4 < zLN (a0 + 1)) ∧ zCL a1 = 8 ∧ zCL a0 = 0 ∧ zCL (a0 + 3) = 20 ∧ (0 ≤ a4 ∧ a4 < zLN (a0 + 3)) ∧ zCL (a1 + 1) = 1 ∧ zC l G 1 d h_Ki_number [(2, a1 + 1), (0, v2 (a0 + 3) a4), (0, 0)] v2 115 (fun r3 v3 =>
      zI (r2 * r3) ∧ zI ((v2 (a0 + 1) a4) + (r2 * r3)) ∧ zCL (a0 + 1) = 20 ∧ (0 ≤ a4 ∧ a4 < zLN (a0 + 1)) ∧ zI (a4 + 1) ∧ K 7 [(2, a0), (2, a1), (2, a2), (0, a3), (0, a4 + 1), (3, 0), (3, 0)] [] (zupd v3 (a0 + 1) a4 ((v2 (a0 + 1) a4) + (r2 * r3))) 115)))))))) : zx l G 1 (d + 1) h_Co_step k_Co_step 115 Q QX K 300 (k_Co_step.drop 7) [(2, a0), (2, a1), (2, a2), (0, a3), (0, a4), (3, 0), (3, 0)] [] v 115 := h
set_option maxRecDepth 100000 in
theorem sg_Co_step_78 {l : Launch} {G : zG} {d : Nat} {Q : Int → zH → Prop} {QX : Nat → zH → Prop} {K : Nat → List zV → List zV → zH → Nat → Prop} {a0 a1 a3 a4 : Int} {v : zH} (h : zCL a1 = 8 ∧ (((v a1 11) ≤ a4 →
  K 103 [(2, a0), (2, a1), (3, 0), (0, a3), (0, 0), (3, 0), (3, 0)] [] v 115) ∧
  (a4 < (v a1 11) →
  zCL a0 = 0 ∧ zCL (a0 + 2) = 20 ∧ (0 ≤ a4 ∧ a4 < zLN (a0 + 2)) ∧ zCL a0 = 0 ∧ zCL (a0 + 8) = 20 ∧ (0 ≤ a4 ∧ a4 < zLN (a0 + 8)) ∧ zCL a0 = 0 ∧ zC l G 1 d h_Co_share [(2, a0), (0, a4), (0, (v (a0 + 8) a4).tdiv 4), (2, a1)] v 115 (fun r1 v1 =>
    zI ((v (a0 + 2) a4) - r1) ∧ zCL (a0 + 2) = 20 ∧ (0 ≤ a4 ∧ a4 < zLN (a0 + 2)) ∧ zI (a4 + 1) ∧ K 78 [(2, a0), (2, a1), (3, 0), (0, a3), (0, a4 + 1), (3, 0), (3, 0)] [] (zupd v1 (a0 + 2) a4 ((v (a0 + 2) a4) - r1)) 115)))) : zx l G 1 (d + 1) h_Co_step k_Co_step 115 Q QX K 300 (k_Co_step.drop 78) [(2, a0), (2, a1), (3, 0), (0, a3), (0, a4), (3, 0), (3, 0)] [] v 115 := h
set_option maxRecDepth 100000 in
theorem sg_Co_step_103 {l : Launch} {G : zG} {d : Nat} {Q : Int → zH → Prop} {QX : Nat → zH → Prop} {K : Nat → List zV → List zV → zH → Nat → Prop} {a0 a1 a3 a4 : Int} {v : zH} (h : zCL a1 = 8 ∧ zCL (a1 + 3) = 1 ∧ (((v (a1 + 3) 6) ≤ a4 →
  zCL a0 = 0 ∧ zC l G 1 d h_Co_settle [(2, a0), (0, a3), (2, a1)] v 115 (fun _ v1 =>
    zCL a0 = 0 ∧ zI ((v1 a0 8) + 1) ∧ zCL a0 = 0 ∧ Q 0 (zupd v1 a0 8 ((v1 a0 8) + 1)))) ∧
  (a4 < (v (a1 + 3) 6) →
  zCL a1 = 8 ∧ zCL (a1 + 3) = 1 ∧ zC l G 1 d h_Ki_number [(2, a1 + 3), (0, a4), (0, 0)] v 115 (fun r2 v2 =>
    zCL a1 = 8 ∧ zI (r2 * (v2 a1 10)) ∧ zCL a1 = 8 ∧ zCL (a1 + 3) = 1 ∧ zC l G 1 d h_Ki_number [(2, a1 + 3), (0, a4), (0, 1)] v2 115 (fun r3 v3 =>
    zI ((r2 * (v2 a1 10)) + r3) ∧ zCL a0 = 0 ∧ zC l G 1 d h_Co_burns [(2, a0), (0, a4)] v3 115 (fun r4 v4 =>
    ((r4 = 0 →
    zI (a4 + 1) ∧ K 103 [(2, a0), (2, a1), (3, 0), (0, a3), (0, a4 + 1), (3, 0), (3, 0)] [] v4 115) ∧
    (¬ r4 = 0 →
    ((((r2 * (v2 a1 10)) + r3) < 0 →
      zI (a4 + 1) ∧ K 103 [(2, a0), (2, a1), (3, 0), (0, a3), (0, a4 + 1), (3, 0), (3, 0)] [] v4 115) ∧
      (0 ≤ ((r2 * (v2 a1 10)) + r3) →
      zCL a1 = 8 ∧ (((v4 a1 11) ≤ ((r2 * (v2 a1 10)) + r3) →
        zI (a4 + 1) ∧ K 103 [(2, a0), (2, a1), (3, 0), (0, a3), (0, a4 + 1), (3, 0), (3, 0)] [] v4 115) ∧
        (((r2 * (v2 a1 10)) + r3) < (v4 a1 11) →
        zCL a1 = 8 ∧ zCL (a1 + 3) = 1 ∧ zC l G 1 d h_Ki_number [(2, a1 + 3), (0, a4), (0, 4)] v4 115 (fun r5 v5 =>
          zCL a0 = 0 ∧ zCL (a0 + 1) = 20 ∧ (0 ≤ ((r2 * (v2 a1 10)) + r3) ∧ ((r2 * (v2 a1 10)) + r3) < zLN (a0 + 1)) ∧ zI ((v5 (a0 + 1) ((r2 * (v2 a1 10)) + r3)) + r5) ∧ zCL (a0 + 1) = 20 ∧ (0 ≤ ((r2 * (v2 a1 10)) + r3) ∧ ((r2 * (v2 a1 10)) + r3) < zLN (a0 + 1)) ∧ zCL a0 = 0 ∧ zC l G 1 d h_Co_share [(2, a0), (0, (r2 * (v2 a1 10)) + r3), (0, r5.tdiv 2), (2, a1)] (zupd v5 (a0 + 1) ((r2 * (v2 a1 10)) + r3) ((v5 (a0 + 1) ((r2 * (v2 a1 10)) + r3)) + r5)) 115 (fun r6 v6 =>
          zI (a4 + 1) ∧ K 103 [(2, a0), (2, a1), (3, 0), (0, a3), (0, a4 + 1), (3, 0), (3, 0)] [] v6 115)))))))))))))) : zx l G 1 (d + 1) h_Co_step k_Co_step 115 Q QX K 300 (k_Co_step.drop 103) [(2, a0), (2, a1), (3, 0), (0, a3), (0, a4), (3, 0), (3, 0)] [] v 115 := h
set_option maxRecDepth 100000 in
theorem sg_Co_share_0 {l : Launch} {G : zG} {d : Nat} {Q : Int → zH → Prop} {QX : Nat → zH → Prop} {K : Nat → List zV → List zV → zH → Nat → Prop} {a0 a1 a2 a3 : Int} {v : zH} (h : K 4 [(2, a0), (0, a1), (0, a2), (2, a3), (0, 0), (0, 0), (3, 0)] [] v 115) : zx l G 1 (d + 1) h_Co_share k_Co_share 115 Q QX K 300 (k_Co_share.drop 0) [(2, a0), (0, a1), (0, a2), (2, a3), (3, 0), (3, 0), (3, 0)] [] v 115 := h
set_option maxRecDepth 100000 in
theorem sg_Co_share_4 {l : Launch} {G : zG} {d : Nat} {Q : Int → zH → Prop} {QX : Nat → zH → Prop} {K : Nat → List zV → List zV → zH → Nat → Prop} {a0 a1 a2 a3 a4 a5 : Int} {v : zH} (h : ((4 ≤ a5 →
  Q a4 v) ∧
  (a5 < 4 →
  zCL a3 = 8 ∧ zI (a1 * 4) ∧ zI ((a1 * 4) + a5) ∧ zCL (a3 + 12) = 20 ∧ (0 ≤ ((a1 * 4) + a5) ∧ ((a1 * 4) + a5) < zLN (a3 + 12)) ∧ (((v (a3 + 12) ((a1 * 4) + a5)) = ((-1)) →
    zI (a5 + 1) ∧ K 4 [(2, a0), (0, a1), (0, a2), (2, a3), (0, a4), (0, a5 + 1), (3, 0)] [] v 115) ∧
    (¬ (v (a3 + 12) ((a1 * 4) + a5)) = ((-1)) →
    zCL a0 = 0 ∧ zCL (a0 + 1) = 20 ∧ (0 ≤ (v (a3 + 12) ((a1 * 4) + a5)) ∧ (v (a3 + 12) ((a1 * 4) + a5)) < zLN (a0 + 1)) ∧ zI ((v (a0 + 1) (v (a3 + 12) ((a1 * 4) + a5))) + a2) ∧ zCL (a0 + 1) = 20 ∧ (0 ≤ (v (a3 + 12) ((a1 * 4) + a5)) ∧ (v (a3 + 12) ((a1 * 4) + a5)) < zLN (a0 + 1)) ∧ zI (a4 + a2) ∧ zI (a5 + 1) ∧ K 4 [(2, a0), (0, a1), (0, a2), (2, a3), (0, a4 + a2), (0, a5 + 1), (3, 0)] [] (zupd v (a0 + 1) (v (a3 + 12) ((a1 * 4) + a5)) ((v (a0 + 1) (v (a3 + 12) ((a1 * 4) + a5))) + a2)) 115))))) : zx l G 1 (d + 1) h_Co_share k_Co_share 115 Q QX K 300 (k_Co_share.drop 4) [(2, a0), (0, a1), (0, a2), (2, a3), (0, a4), (0, a5), (3, 0)] [] v 115 := h
set_option maxRecDepth 100000 in
theorem sg_Co_settle_0 {l : Launch} {G : zG} {d : Nat} {Q : Int → zH → Prop} {QX : Nat → zH → Prop} {K : Nat → List zV → List zV → zH → Nat → Prop} {a0 a1 a2 : Int} {v : zH} (h : K 2 [(2, a0), (0, a1), (2, a2), (0, 0), (3, 0)] [] v 115) : zx l G 1 (d + 1) h_Co_settle k_Co_settle 115 Q QX K 300 (k_Co_settle.drop 0) [(2, a0), (0, a1), (2, a2), (3, 0), (3, 0)] [] v 115 := h
set_option maxRecDepth 100000 in
theorem sg_Co_settle_2 {l : Launch} {G : zG} {d : Nat} {Q : Int → zH → Prop} {QX : Nat → zH → Prop} {K : Nat → List zV → List zV → zH → Nat → Prop} {a0 a1 a2 a3 : Int} {v : zH} (h : zCL a2 = 8 ∧ (((v a2 11) ≤ a3 →
  Q 0 v) ∧
  (a3 < (v a2 11) →
  ((a1 = 0 →
    zCL a0 = 0 ∧ zCL (a0 + 1) = 20 ∧ (0 ≤ a3 ∧ a3 < zLN (a0 + 1)) ∧ zCL a2 = 8 ∧ zCL a0 = 0 ∧ zCL (a0 + 3) = 20 ∧ (0 ≤ a3 ∧ a3 < zLN (a0 + 3)) ∧ zCL (a2 + 1) = 1 ∧ zC l G 1 d h_Ki_number [(2, a2 + 1), (0, v (a0 + 3) a3), (0, 1)] v 115 (fun r1 v1 =>
      zI ((v (a0 + 1) a3) - r1) ∧ ((((v (a0 + 1) a3) - r1) ≤ 0 →
      zI (a3 + 1) ∧ K 2 [(2, a0), (0, a1), (2, a2), (0, a3 + 1), (3, 0)] [] v1 115) ∧
      (0 < ((v (a0 + 1) a3) - r1) →
      zCL a0 = 0 ∧ zCL (a0 + 2) = 20 ∧ (0 ≤ a3 ∧ a3 < zLN (a0 + 2)) ∧ zI ((v1 (a0 + 2) a3) + ((v (a0 + 1) a3) - r1)) ∧ zCL (a0 + 2) = 20 ∧ (0 ≤ a3 ∧ a3 < zLN (a0 + 2)) ∧ zCL a0 = 0 ∧ zCL (a0 + 1) = 20 ∧ (0 ≤ a3 ∧ a3 < zLN (a0 + 1)) ∧ zI (((zupd v1 (a0 + 2) a3 ((v1 (a0 + 2) a3) + ((v (a0 + 1) a3) - r1))) (a0 + 1) a3) - ((v (a0 + 1) a3) - r1)) ∧ zCL (a0 + 1) = 20 ∧ (0 ≤ a3 ∧ a3 < zLN (a0 + 1)) ∧ zI (a3 + 1) ∧ K 2 [(2, a0), (0, a1), (2, a2), (0, a3 + 1), (3, 0)] [] (zupd (zupd v1 (a0 + 2) a3 ((v1 (a0 + 2) a3) + ((v (a0 + 1) a3) - r1))) (a0 + 1) a3 (((zupd v1 (a0 + 2) a3 ((v1 (a0 + 2) a3) + ((v (a0 + 1) a3) - r1))) (a0 + 1) a3) - ((v (a0 + 1) a3) - r1))) 115)))) ∧
    (¬ a1 = 0 →
    zCL a0 = 0 ∧ zCL a0 = 0 ∧ zCL (a0 + 1) = 20 ∧ (0 ≤ a3 ∧ a3 < zLN (a0 + 1)) ∧ zI ((v (a0 + 1) a3) - 2) ∧ zCL (a0 + 1) = 20 ∧ (0 ≤ a3 ∧ a3 < zLN (a0 + 1)) ∧ zCL a0 = 0 ∧ zCL (a0 + 1) = 20 ∧ (0 ≤ a3 ∧ a3 < zLN (a0 + 1)) ∧ zCL a2 = 8 ∧ zCL a0 = 0 ∧ zCL (a0 + 3) = 20 ∧ (0 ≤ a3 ∧ a3 < zLN (a0 + 3)) ∧ zCL (a2 + 1) = 1 ∧ zC l G 1 d h_Ki_number [(2, a2 + 1), (0, (zupd v (a0 + 1) a3 (max 0 ((v (a0 + 1) a3) - 2))) (a0 + 3) a3), (0, 1)] (zupd v (a0 + 1) a3 (max 0 ((v (a0 + 1) a3) - 2))) 115 (fun r2 v2 =>
      zI (((zupd v (a0 + 1) a3 (max 0 ((v (a0 + 1) a3) - 2))) (a0 + 1) a3) - r2) ∧ (((((zupd v (a0 + 1) a3 (max 0 ((v (a0 + 1) a3) - 2))) (a0 + 1) a3) - r2) ≤ 0 →
      zI (a3 + 1) ∧ K 2 [(2, a0), (0, a1), (2, a2), (0, a3 + 1), (3, 0)] [] v2 115) ∧
      (0 < (((zupd v (a0 + 1) a3 (max 0 ((v (a0 + 1) a3) - 2))) (a0 + 1) a3) - r2) →
      zCL a0 = 0 ∧ zCL (a0 + 2) = 20 ∧ (0 ≤ a3 ∧ a3 < zLN (a0 + 2)) ∧ zI ((v2 (a0 + 2) a3) + (((zupd v (a0 + 1) a3 (max 0 ((v (a0 + 1) a3) - 2))) (a0 + 1) a3) - r2)) ∧ zCL (a0 + 2) = 20 ∧ (0 ≤ a3 ∧ a3 < zLN (a0 + 2)) ∧ zCL a0 = 0 ∧ zCL (a0 + 1) = 20 ∧ (0 ≤ a3 ∧ a3 < zLN (a0 + 1)) ∧ zI (((zupd v2 (a0 + 2) a3 ((v2 (a0 + 2) a3) + (((zupd v (a0 + 1) a3 (max 0 ((v (a0 + 1) a3) - 2))) (a0 + 1) a3) - r2))) (a0 + 1) a3) - (((zupd v (a0 + 1) a3 (max 0 ((v (a0 + 1) a3) - 2))) (a0 + 1) a3) - r2)) ∧ zCL (a0 + 1) = 20 ∧ (0 ≤ a3 ∧ a3 < zLN (a0 + 1)) ∧ zI (a3 + 1) ∧ K 2 [(2, a0), (0, a1), (2, a2), (0, a3 + 1), (3, 0)] [] (zupd (zupd v2 (a0 + 2) a3 ((v2 (a0 + 2) a3) + (((zupd v (a0 + 1) a3 (max 0 ((v (a0 + 1) a3) - 2))) (a0 + 1) a3) - r2))) (a0 + 1) a3 (((zupd v2 (a0 + 2) a3 ((v2 (a0 + 2) a3) + (((zupd v (a0 + 1) a3 (max 0 ((v (a0 + 1) a3) - 2))) (a0 + 1) a3) - r2))) (a0 + 1) a3) - (((zupd v (a0 + 1) a3 (max 0 ((v (a0 + 1) a3) - 2))) (a0 + 1) a3) - r2))) 115)))))))) : zx l G 1 (d + 1) h_Co_settle k_Co_settle 115 Q QX K 300 (k_Co_settle.drop 2) [(2, a0), (0, a1), (2, a2), (0, a3), (3, 0)] [] v 115 := h
set_option maxRecDepth 100000 in
theorem sg_Co_sleep_0 {l : Launch} {G : zG} {d : Nat} {Q : Int → zH → Prop} {QX : Nat → zH → Prop} {K : Nat → List zV → List zV → zH → Nat → Prop} {a0 a1 a2 : Int} {v : zH} (h : zCL a0 = 0 ∧ zI (20 - ((v a0 8).tmod 24)) ∧ zI ((20 - ((v a0 8).tmod 24)) + 24) ∧ K 13 [(2, a0), (2, a1), (2, a2), (0, ((20 - ((v a0 8).tmod 24)) + 24).tmod 24), (0, 0), (3, 0)] [] v 115) : zx l G 1 (d + 1) h_Co_sleep k_Co_sleep 115 Q QX K 300 (k_Co_sleep.drop 0) [(2, a0), (2, a1), (2, a2), (3, 0), (3, 0), (3, 0)] [] v 115 := h
set_option maxRecDepth 100000 in
theorem sg_Co_sleep_13 {l : Launch} {G : zG} {d : Nat} {Q : Int → zH → Prop} {QX : Nat → zH → Prop} {K : Nat → List zV → List zV → zH → Nat → Prop} {a0 a1 a2 a3 a4 : Int} {v : zH} (h : ((a3 ≤ a4 →
  K 24 [(2, a0), (2, a1), (2, a2), (3, 0), (0, 0), (3, 0)] [] v 115) ∧
  (a4 < a3 →
  zCL a0 = 0 ∧ zC l G 1 d h_Co_step [(2, a0), (2, a1), (2, a2)] v 115 (fun _ v1 =>
    zI (a4 + 1) ∧ K 13 [(2, a0), (2, a1), (2, a2), (0, a3), (0, a4 + 1), (3, 0)] [] v1 115)))) : zx l G 1 (d + 1) h_Co_sleep k_Co_sleep 115 Q QX K 300 (k_Co_sleep.drop 13) [(2, a0), (2, a1), (2, a2), (0, a3), (0, a4), (3, 0)] [] v 115 := h
set_option maxRecDepth 100000 in
theorem sg_Co_sleep_24 {l : Launch} {G : zG} {d : Nat} {Q : Int → zH → Prop} {QX : Nat → zH → Prop} {K : Nat → List zV → List zV → zH → Nat → Prop} {a0 a1 a2 a4 : Int} {v : zH} (h : ((9 ≤ a4 →
  Q 0 v) ∧
  (a4 < 9 →
  zCL a0 = 0 ∧ zC l G 1 d h_Co_step [(2, a0), (2, a1), (2, a2)] v 115 (fun _ v1 =>
    K 33 [(2, a0), (2, a1), (2, a2), (3, 0), (0, a4), (0, 0)] [] v1 115)))) : zx l G 1 (d + 1) h_Co_sleep k_Co_sleep 115 Q QX K 300 (k_Co_sleep.drop 24) [(2, a0), (2, a1), (2, a2), (3, 0), (0, a4), (3, 0)] [] v 115 := h
set_option maxRecDepth 100000 in
theorem sg_Co_sleep_33 {l : Launch} {G : zG} {d : Nat} {Q : Int → zH → Prop} {QX : Nat → zH → Prop} {K : Nat → List zV → List zV → zH → Nat → Prop} {a0 a1 a2 a4 a5 : Int} {v : zH} (h : zCL a1 = 8 ∧ (((v a1 11) ≤ a5 →
  zI (a4 + 1) ∧ K 24 [(2, a0), (2, a1), (2, a2), (3, 0), (0, a4 + 1), (3, 0)] [] v 115) ∧
  (a5 < (v a1 11) →
  zCL a0 = 0 ∧ ((¬ a4 = 0 →
    zCL a0 = 0 ∧ zCL (a0 + 6) = 20 ∧ (0 ≤ a5 ∧ a5 < zLN (a0 + 6)) ∧ zCL a0 = 0 ∧ zCL (a0 + 2) = 20 ∧ (0 ≤ a5 ∧ a5 < zLN (a0 + 2)) ∧ zCL (a0 + 6) = 20 ∧ (0 ≤ a5 ∧ a5 < zLN (a0 + 6)) ∧ zI (a5 + 1) ∧ K 33 [(2, a0), (2, a1), (2, a2), (3, 0), (0, a4), (0, a5 + 1)] [] (zupd v (a0 + 6) a5 (min (v (a0 + 6) a5) (v (a0 + 2) a5))) 115) ∧
    (a4 = 0 →
    zCL a0 = 0 ∧ zCL (a0 + 2) = 20 ∧ (0 ≤ a5 ∧ a5 < zLN (a0 + 2)) ∧ zCL (a0 + 6) = 20 ∧ (0 ≤ a5 ∧ a5 < zLN (a0 + 6)) ∧ zI (a5 + 1) ∧ K 33 [(2, a0), (2, a1), (2, a2), (3, 0), (0, a4), (0, a5 + 1)] [] (zupd v (a0 + 6) a5 (v (a0 + 2) a5)) 115))))) : zx l G 1 (d + 1) h_Co_sleep k_Co_sleep 115 Q QX K 300 (k_Co_sleep.drop 33) [(2, a0), (2, a1), (2, a2), (3, 0), (0, a4), (0, a5)] [] v 115 := h
set_option maxRecDepth 100000 in
theorem sg_Pa_forget_0 {l : Launch} {G : zG} {d : Nat} {Q : Int → zH → Prop} {QX : Nat → zH → Prop} {K : Nat → List zV → List zV → zH → Nat → Prop} {a0 : Int} {v : zH} (h : zCL a0 = 4 ∧ zCL a0 = 4 ∧ ((0 : Int) = 0 ∨ (0 : Int) = 1) ∧ Q 0 (zupd (zupd v a0 5 0) a0 2 0)) : zx l G 1 (d + 1) h_Pa_forget k_Pa_forget 115 Q QX K 300 (k_Pa_forget.drop 0) [(2, a0)] [] v 115 := h
set_option maxRecDepth 100000 in
theorem sg_Pa_keep_0 {l : Launch} {G : zG} {d : Nat} {Q : Int → zH → Prop} {QX : Nat → zH → Prop} {K : Nat → List zV → List zV → zH → Nat → Prop} {a0 a1 : Int} {v : zH} (h : zCL a1 = 0 ∧ zCL a0 = 4 ∧ zCL a0 = 4 ∧ zI ((v a0 4) * 24) ∧ (zCL (a1 + 1) = 20 ∧ zCL (a0 + 1) = 20) ∧ (0 ≤ (0 : Int) ∧ 0 ≤ ((v a0 4) * 24) ∧ 0 ≤ (24 : Int) ∧ 0 + 24 ≤ zLN (a1 + 1) ∧ ((v a0 4) * 24) + 24 ≤ zLN (a0 + 1)) ∧ zCL a0 = 4 ∧ zI (((zcp v (a1 + 1) 0 (a0 + 1) ((v a0 4) * 24) 24) a0 4) + 1) ∧ zCL a0 = 4 ∧ zCL a0 = 4 ∧ zI (((zupd (zcp v (a1 + 1) 0 (a0 + 1) ((v a0 4) * 24) 24) a0 4 ((((zcp v (a1 + 1) 0 (a0 + 1) ((v a0 4) * 24) 24) a0 4) + 1).tmod 60)) a0 5) + 1) ∧ zCL a0 = 4 ∧ Q 0 (zupd (zupd (zcp v (a1 + 1) 0 (a0 + 1) ((v a0 4) * 24) 24) a0 4 ((((zcp v (a1 + 1) 0 (a0 + 1) ((v a0 4) * 24) 24) a0 4) + 1).tmod 60)) a0 5 (min (((zupd (zcp v (a1 + 1) 0 (a0 + 1) ((v a0 4) * 24) 24) a0 4 ((((zcp v (a1 + 1) 0 (a0 + 1) ((v a0 4) * 24) 24) a0 4) + 1).tmod 60)) a0 5) + 1) 60))) : zx l G 1 (d + 1) h_Pa_keep k_Pa_keep 115 Q QX K 300 (k_Pa_keep.drop 0) [(2, a0), (2, a1)] [] v 115 := h
set_option maxRecDepth 100000 in
theorem sg_Pa_takeBack_0 {l : Launch} {G : zG} {d : Nat} {Q : Int → zH → Prop} {QX : Nat → zH → Prop} {K : Nat → List zV → List zV → zH → Nat → Prop} {a0 a1 : Int} {v : zH} (h : zCL a0 = 4 ∧ ((¬ (v a0 5) = 0 →
  zCL a0 = 4 ∧ zI ((v a0 5) - 1) ∧ zCL a0 = 4 ∧ zCL a0 = 4 ∧ zI (((zupd v a0 5 ((v a0 5) - 1)) a0 4) + 60) ∧ zI ((((zupd v a0 5 ((v a0 5) - 1)) a0 4) + 60) - 1) ∧ zCL a0 = 4 ∧ zCL a0 = 4 ∧ zCL a0 = 4 ∧ zI (((zupd (zupd v a0 5 ((v a0 5) - 1)) a0 4 (((((zupd v a0 5 ((v a0 5) - 1)) a0 4) + 60) - 1).tmod 60)) a0 4) * 24) ∧ zCL a1 = 0 ∧ (zCL (a0 + 1) = 20 ∧ zCL (a1 + 1) = 20) ∧ (0 ≤ (((zupd (zupd v a0 5 ((v a0 5) - 1)) a0 4 (((((zupd v a0 5 ((v a0 5) - 1)) a0 4) + 60) - 1).tmod 60)) a0 4) * 24) ∧ 0 ≤ (0 : Int) ∧ 0 ≤ (24 : Int) ∧ (((zupd (zupd v a0 5 ((v a0 5) - 1)) a0 4 (((((zupd v a0 5 ((v a0 5) - 1)) a0 4) + 60) - 1).tmod 60)) a0 4) * 24) + 24 ≤ zLN (a0 + 1) ∧ 0 + 24 ≤ zLN (a1 + 1)) ∧ zCL a1 = 0 ∧ zI (((zcp (zupd (zupd v a0 5 ((v a0 5) - 1)) a0 4 (((((zupd v a0 5 ((v a0 5) - 1)) a0 4) + 60) - 1).tmod 60)) (a0 + 1) (((zupd (zupd v a0 5 ((v a0 5) - 1)) a0 4 (((((zupd v a0 5 ((v a0 5) - 1)) a0 4) + 60) - 1).tmod 60)) a0 4) * 24) (a1 + 1) 0 24) a1 8) - 1) ∧ zCL a1 = 0 ∧ ((1 : Int) = 0 ∨ (1 : Int) = 1) ∧ Q 1 (zupd (zcp (zupd (zupd v a0 5 ((v a0 5) - 1)) a0 4 (((((zupd v a0 5 ((v a0 5) - 1)) a0 4) + 60) - 1).tmod 60)) (a0 + 1) (((zupd (zupd v a0 5 ((v a0 5) - 1)) a0 4 (((((zupd v a0 5 ((v a0 5) - 1)) a0 4) + 60) - 1).tmod 60)) a0 4) * 24) (a1 + 1) 0 24) a1 8 (((zcp (zupd (zupd v a0 5 ((v a0 5) - 1)) a0 4 (((((zupd v a0 5 ((v a0 5) - 1)) a0 4) + 60) - 1).tmod 60)) (a0 + 1) (((zupd (zupd v a0 5 ((v a0 5) - 1)) a0 4 (((((zupd v a0 5 ((v a0 5) - 1)) a0 4) + 60) - 1).tmod 60)) a0 4) * 24) (a1 + 1) 0 24) a1 8) - 1))) ∧
  ((v a0 5) = 0 →
  ((0 : Int) = 0 ∨ (0 : Int) = 1) ∧ Q 0 v))) : zx l G 1 (d + 1) h_Pa_takeBack k_Pa_takeBack 115 Q QX K 300 (k_Pa_takeBack.drop 0) [(2, a0), (2, a1)] [] v 115 := h
set_option maxRecDepth 100000 in
theorem sg_Pa_draw_0 {l : Launch} {G : zG} {d : Nat} {Q : Int → zH → Prop} {QX : Nat → zH → Prop} {K : Nat → List zV → List zV → zH → Nat → Prop} {a0 a1 : Int} {v : zH} (h : zCL a1 = 0 ∧ zCL a0 = 4 ∧ (zCL (a1 + 1) = 20 ∧ zCL (a0 + 2) = 20) ∧ (0 ≤ (0 : Int) ∧ 0 ≤ (0 : Int) ∧ 0 ≤ (24 : Int) ∧ 0 + 24 ≤ zLN (a1 + 1) ∧ 0 + 24 ≤ zLN (a0 + 2)) ∧ zCL a1 = 0 ∧ zCL a0 = 4 ∧ zCL a0 = 4 ∧ ((1 : Int) = 0 ∨ (1 : Int) = 1) ∧ Q 0 (zupd (zupd (zcp v (a1 + 1) 0 (a0 + 2) 0 24) a0 3 ((zcp v (a1 + 1) 0 (a0 + 2) 0 24) a1 8)) a0 2 1)) : zx l G 1 (d + 1) h_Pa_draw k_Pa_draw 115 Q QX K 300 (k_Pa_draw.drop 0) [(2, a0), (2, a1)] [] v 115 := h
set_option maxRecDepth 100000 in
theorem sg_Pa_comeBack_0 {l : Launch} {G : zG} {d : Nat} {Q : Int → zH → Prop} {QX : Nat → zH → Prop} {K : Nat → List zV → List zV → zH → Nat → Prop} {a0 a1 : Int} {v : zH} (h : zCL a0 = 4 ∧ ((¬ (v a0 2) = 0 →
  zCL a0 = 4 ∧ zCL a1 = 0 ∧ (zCL (a0 + 2) = 20 ∧ zCL (a1 + 1) = 20) ∧ (0 ≤ (0 : Int) ∧ 0 ≤ (0 : Int) ∧ 0 ≤ (24 : Int) ∧ 0 + 24 ≤ zLN (a0 + 2) ∧ 0 + 24 ≤ zLN (a1 + 1)) ∧ zCL a0 = 4 ∧ zCL a1 = 0 ∧ zCL a0 = 4 ∧ ((1 : Int) = 0 ∨ (1 : Int) = 1) ∧ Q 1 (zupd (zupd (zcp v (a0 + 2) 0 (a1 + 1) 0 24) a1 8 ((zcp v (a0 + 2) 0 (a1 + 1) 0 24) a0 3)) a0 5 0)) ∧
  ((v a0 2) = 0 →
  ((0 : Int) = 0 ∨ (0 : Int) = 1) ∧ Q 0 v))) : zx l G 1 (d + 1) h_Pa_comeBack k_Pa_comeBack 115 Q QX K 300 (k_Pa_comeBack.drop 0) [(2, a0), (2, a1)] [] v 115 := h
set_option maxRecDepth 100000 in
theorem sg_To_tell_0 {l : Launch} {G : zG} {d : Nat} {Q : Int → zH → Prop} {QX : Nat → zH → Prop} {K : Nat → List zV → List zV → zH → Nat → Prop} {a0 a1 a2 a3 : Int} {v : zH} (h : zCL a0 = 7 ∧ ((¬ (v a0 3) = 20 →
  zCL a0 = 7 ∧ zCL a0 = 7 ∧ zCL (a0 + 1) = 20 ∧ (0 ≤ (v a0 3) ∧ (v a0 3) < zLN (a0 + 1)) ∧ zCL a0 = 7 ∧ zCL a0 = 7 ∧ zCL (a0 + 2) = 20 ∧ (0 ≤ ((zupd v (a0 + 1) (v a0 3) a1) a0 3) ∧ ((zupd v (a0 + 1) (v a0 3) a1) a0 3) < zLN (a0 + 2)) ∧ zCL a0 = 7 ∧ zCL a0 = 7 ∧ zCL (a0 + 3) = 20 ∧ (0 ≤ ((zupd (zupd v (a0 + 1) (v a0 3) a1) (a0 + 2) ((zupd v (a0 + 1) (v a0 3) a1) a0 3) a2) a0 3) ∧ ((zupd (zupd v (a0 + 1) (v a0 3) a1) (a0 + 2) ((zupd v (a0 + 1) (v a0 3) a1) a0 3) a2) a0 3) < zLN (a0 + 3)) ∧ zCL a0 = 7 ∧ zI (((zupd (zupd (zupd v (a0 + 1) (v a0 3) a1) (a0 + 2) ((zupd v (a0 + 1) (v a0 3) a1) a0 3) a2) (a0 + 3) ((zupd (zupd v (a0 + 1) (v a0 3) a1) (a0 + 2) ((zupd v (a0 + 1) (v a0 3) a1) a0 3) a2) a0 3) a3) a0 3) + 1) ∧ zCL a0 = 7 ∧ ((1 : Int) = 0 ∨ (1 : Int) = 1) ∧ Q 1 (zupd (zupd (zupd (zupd v (a0 + 1) (v a0 3) a1) (a0 + 2) ((zupd v (a0 + 1) (v a0 3) a1) a0 3) a2) (a0 + 3) ((zupd (zupd v (a0 + 1) (v a0 3) a1) (a0 + 2) ((zupd v (a0 + 1) (v a0 3) a1) a0 3) a2) a0 3) a3) a0 3 (((zupd (zupd (zupd v (a0 + 1) (v a0 3) a1) (a0 + 2) ((zupd v (a0 + 1) (v a0 3) a1) a0 3) a2) (a0 + 3) ((zupd (zupd v (a0 + 1) (v a0 3) a1) (a0 + 2) ((zupd v (a0 + 1) (v a0 3) a1) a0 3) a2) a0 3) a3) a0 3) + 1))) ∧
  ((v a0 3) = 20 →
  ((0 : Int) = 0 ∨ (0 : Int) = 1) ∧ Q 0 v))) : zx l G 1 (d + 1) h_To_tell k_To_tell 115 Q QX K 300 (k_To_tell.drop 0) [(2, a0), (0, a1), (0, a2), (0, a3)] [] v 115 := h
set_option maxRecDepth 100000 in
theorem sg_To_lastHour_0 {l : Launch} {G : zG} {d : Nat} {Q : Int → zH → Prop} {QX : Nat → zH → Prop} {K : Nat → List zV → List zV → zH → Nat → Prop} {a0 : Int} {v : zH} (h : K 4 [(2, a0), (0, 0), (0, 0)] [] v 115) : zx l G 1 (d + 1) h_To_lastHour k_To_lastHour 115 Q QX K 300 (k_To_lastHour.drop 0) [(2, a0), (3, 0), (3, 0)] [] v 115 := h
set_option maxRecDepth 100000 in
theorem sg_To_lastHour_4 {l : Launch} {G : zG} {d : Nat} {Q : Int → zH → Prop} {QX : Nat → zH → Prop} {K : Nat → List zV → List zV → zH → Nat → Prop} {a0 a1 a2 : Int} {v : zH} (h : zCL a0 = 7 ∧ (((v a0 3) ≤ a2 →
  Q a1 v) ∧
  (a2 < (v a0 3) →
  zCL a0 = 7 ∧ zCL (a0 + 2) = 20 ∧ (0 ≤ a2 ∧ a2 < zLN (a0 + 2)) ∧ zI (a2 + 1) ∧ K 4 [(2, a0), (0, max a1 (v (a0 + 2) a2)), (0, a2 + 1)] [] v 115))) : zx l G 1 (d + 1) h_To_lastHour k_To_lastHour 115 Q QX K 300 (k_To_lastHour.drop 4) [(2, a0), (0, a1), (0, a2)] [] v 115 := h
set_option maxRecDepth 100000 in
theorem sg_To_allowAt_0 {l : Launch} {G : zG} {d : Nat} {Q : Int → zH → Prop} {QX : Nat → zH → Prop} {K : Nat → List zV → List zV → zH → Nat → Prop} {a0 a1 a2 : Int} {v : zH} (h : K 2 [(2, a0), (0, a1), (2, a2), (0, 0), (3, 0)] [] v 115) : zx l G 1 (d + 1) h_To_allowAt k_To_allowAt 115 Q QX K 300 (k_To_allowAt.drop 0) [(2, a0), (0, a1), (2, a2), (3, 0), (3, 0)] [] v 115 := h
set_option maxRecDepth 100000 in
theorem sg_To_allowAt_2 {l : Launch} {G : zG} {d : Nat} {Q : Int → zH → Prop} {QX : Nat → zH → Prop} {K : Nat → List zV → List zV → zH → Nat → Prop} {a0 a1 a2 a3 : Int} {v : zH} (h : zCL a0 = 7 ∧ (((v a0 3) ≤ a3 →
  ((1 : Int) = 0 ∨ (1 : Int) = 1) ∧ Q 1 v) ∧
  (a3 < (v a0 3) →
  zCL a0 = 7 ∧ zCL (a0 + 1) = 20 ∧ (0 ≤ a3 ∧ a3 < zLN (a0 + 1)) ∧ zCL a0 = 7 ∧ zCL (a0 + 2) = 20 ∧ (0 ≤ a3 ∧ a3 < zLN (a0 + 2)) ∧ ((¬ (v (a0 + 2) a3) = a1 →
    zI (a3 + 1) ∧ K 2 [(2, a0), (0, a1), (2, a2), (0, a3 + 1), (3, 0)] [] v 115) ∧
    ((v (a0 + 2) a3) = a1 →
    (zCL a2 = 20 ∨ zCL a2 = 21) ∧ (((zLN a2) ≤ (v (a0 + 1) a3) →
      ((0 : Int) = 0 ∨ (0 : Int) = 1) ∧ Q 0 v) ∧
      ((v (a0 + 1) a3) < (zLN a2) →
      zCL a2 = 20 ∧ (0 ≤ (v (a0 + 1) a3) ∧ (v (a0 + 1) a3) < zLN a2) ∧ zCL a0 = 7 ∧ zCL (a0 + 3) = 20 ∧ (0 ≤ a3 ∧ a3 < zLN (a0 + 3)) ∧ (((v a2 (v (a0 + 1) a3)) = (v (a0 + 3) a3) →
        zI (a3 + 1) ∧ K 2 [(2, a0), (0, a1), (2, a2), (0, a3 + 1), (3, 0)] [] v 115) ∧
        (¬ (v a2 (v (a0 + 1) a3)) = (v (a0 + 3) a3) →
        ((0 : Int) = 0 ∨ (0 : Int) = 1) ∧ Q 0 v))))))))) : zx l G 1 (d + 1) h_To_allowAt k_To_allowAt 115 Q QX K 300 (k_To_allowAt.drop 2) [(2, a0), (0, a1), (2, a2), (0, a3), (3, 0)] [] v 115 := h
