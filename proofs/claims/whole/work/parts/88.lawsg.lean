/-! the law: its blocks checked, and what they come to -/
theorem yce_ck {h : zHdr} {code : List zIns} (hck : yck h code = true) {q : Nat} (h0 : (match code[q]? with
  | some e => (iCut e).isNone
  | none => false) = true) : yce h code q = true := by
  unfold yce
  cases he : code[q]? with
  | none => rw [he] at h0; cases h0
  | some e =>
    rw [he] at h0
    rcases (yck_at hck he).2 with h1 | h1
    · have h0 : (iCut e).isNone = true := h0
      cases hc : iCut e with
      | none => rw [hc] at h1; cases h1
      | some z => rw [hc] at h0; cases h0
    · exact h1
theorem yk_Lh : yck h_Lw_law k_Lh = true := by decide +kernel
theorem yk_L0 : yck h_Lw_law k_L0 = true := by decide +kernel
theorem yk_L1 : yck h_Lw_law k_L1 = true := by decide +kernel
theorem yk_L2 : yck h_Lw_law k_L2 = true := by decide +kernel
theorem yk_L3 : yck h_Lw_law k_L3 = true := by decide +kernel
theorem yk_L4 : yck h_Lw_law k_L4 = true := by decide +kernel
theorem yk_L4b : yck h_Lw_law k_L4b = true := by decide +kernel
theorem yk_L5 : yck h_Lw_law k_L5 = true := by decide +kernel
theorem yk_L6 : yck h_Lw_law k_L6 = true := by decide +kernel
theorem yk_L7 : yck h_Lw_law k_L7 = true := by decide +kernel
theorem yk_L8 : yck h_Lw_law k_L8 = true := by decide +kernel
theorem yk_L9 : yck h_Lw_law k_L9 = true := by decide +kernel
theorem yk_L10 : yck h_Lw_law k_L10 = true := by decide +kernel
theorem yk_L11 : yck h_Lw_law k_L11 = true := by decide +kernel
theorem yk_L12 : yck h_Lw_law k_L12 = true := by decide +kernel
theorem yk_L13 : yck h_Lw_law k_L13 = true := by decide +kernel
theorem yk_L14 : yck h_Lw_law k_L14 = true := by decide +kernel
theorem yk_L15 : yck h_Lw_law k_L15 = true := by decide +kernel
theorem yk_L16 : yck h_Lw_law k_L16 = true := by decide +kernel
theorem yk_L17 : yck h_Lw_law k_L17 = true := by decide +kernel
theorem yk_L18 : yck h_Lw_law k_L18 = true := by decide +kernel
theorem yk_L19 : yck h_Lw_law k_L19 = true := by decide +kernel
theorem yk_L20 : yck h_Lw_law k_L20 = true := by decide +kernel
theorem yk_L21 : yck h_Lw_law k_L21 = true := by decide +kernel
theorem yk_L22 : yck h_Lw_law k_L22 = true := by decide +kernel
theorem yk_L23 : yck h_Lw_law k_L23 = true := by decide +kernel
theorem yk_L24 : yck h_Lw_law k_L24 = true := by decide +kernel
theorem yk_L25 : yck h_Lw_law k_L25 = true := by decide +kernel
theorem yk_L26 : yck h_Lw_law k_L26 = true := by decide +kernel
theorem yk_L27 : yck h_Lw_law k_L27 = true := by decide +kernel
theorem yk_L28 : yck h_Lw_law k_L28 = true := by decide +kernel
theorem yk_L29 : yck h_Lw_law k_L29 = true := by decide +kernel
theorem yk_L30 : yck h_Lw_law k_L30 = true := by decide +kernel
theorem yk_L31 : yck h_Lw_law k_L31 = true := by decide +kernel
theorem yk_L32 : yck h_Lw_law k_L32 = true := by decide +kernel
theorem yk_L33 : yck h_Lw_law k_L33 = true := by decide +kernel
theorem yk_L34 : yck h_Lw_law k_L34 = true := by decide +kernel
theorem yk_L35 : yck h_Lw_law k_L35 = true := by decide +kernel
theorem yk_Li : yck h_Lw_law k_Li = true := by decide +kernel
theorem yk_Lm : yck h_Lw_made k_Lm = true := by decide +kernel
set_option maxRecDepth 100000 in
theorem sg_Lh {l : Launch} {G : zG} {d : Nat} {Q : Int → zH → Prop} {QX : Nat → zH → Prop} {K : Nat → List zV → List zV → zH → Nat → Prop} {i : Int} {v : zH} (h : ((-20)) = -20 ∧ zI ((zgL G) - 6) ∧ ((((zgL G) - 6) < i →
  K 49 [(3, 0), (3, 0), (3, 0), (3, 0), (3, 0), (3, 0), (3, 0)] [] v 115) ∧
  (i ≤ ((zgL G) - 6) →
  ((-20)) = -20 ∧ (0 ≤ i ∧ i < zgL G) ∧ (((zand (zgS G i) 63) < 0 → K 48 [(2, (-20)), (2, 0), (2, 77), (2, 114), (0, i), (3, 0), (3, 0)] [] v 115) ∧
    ((zand (zgS G i) 63) = 0 → K 12 [(2, (-20)), (2, 0), (2, 77), (2, 114), (0, i), (3, 0), (3, 0)] [] v 115) ∧
    ((zand (zgS G i) 63) = 1 → K 13 [(2, (-20)), (2, 0), (2, 77), (2, 114), (0, i), (3, 0), (3, 0)] [] v 115) ∧
    ((zand (zgS G i) 63) = 2 → K 14 [(2, (-20)), (2, 0), (2, 77), (2, 114), (0, i), (3, 0), (3, 0)] [] v 115) ∧
    ((zand (zgS G i) 63) = 3 → K 15 [(2, (-20)), (2, 0), (2, 77), (2, 114), (0, i), (3, 0), (3, 0)] [] v 115) ∧
    ((zand (zgS G i) 63) = 4 → K 16 [(2, (-20)), (2, 0), (2, 77), (2, 114), (0, i), (3, 0), (3, 0)] [] v 115) ∧
    ((zand (zgS G i) 63) = 5 → K 17 [(2, (-20)), (2, 0), (2, 77), (2, 114), (0, i), (3, 0), (3, 0)] [] v 115) ∧
    ((zand (zgS G i) 63) = 6 → K 18 [(2, (-20)), (2, 0), (2, 77), (2, 114), (0, i), (3, 0), (3, 0)] [] v 115) ∧
    ((zand (zgS G i) 63) = 7 → K 19 [(2, (-20)), (2, 0), (2, 77), (2, 114), (0, i), (3, 0), (3, 0)] [] v 115) ∧
    ((zand (zgS G i) 63) = 8 → K 20 [(2, (-20)), (2, 0), (2, 77), (2, 114), (0, i), (3, 0), (3, 0)] [] v 115) ∧
    ((zand (zgS G i) 63) = 9 → K 21 [(2, (-20)), (2, 0), (2, 77), (2, 114), (0, i), (3, 0), (3, 0)] [] v 115) ∧
    ((zand (zgS G i) 63) = 10 → K 22 [(2, (-20)), (2, 0), (2, 77), (2, 114), (0, i), (3, 0), (3, 0)] [] v 115) ∧
    ((zand (zgS G i) 63) = 11 → K 23 [(2, (-20)), (2, 0), (2, 77), (2, 114), (0, i), (3, 0), (3, 0)] [] v 115) ∧
    ((zand (zgS G i) 63) = 12 → K 24 [(2, (-20)), (2, 0), (2, 77), (2, 114), (0, i), (3, 0), (3, 0)] [] v 115) ∧
    ((zand (zgS G i) 63) = 13 → K 25 [(2, (-20)), (2, 0), (2, 77), (2, 114), (0, i), (3, 0), (3, 0)] [] v 115) ∧
    ((zand (zgS G i) 63) = 14 → K 26 [(2, (-20)), (2, 0), (2, 77), (2, 114), (0, i), (3, 0), (3, 0)] [] v 115) ∧
    ((zand (zgS G i) 63) = 15 → K 27 [(2, (-20)), (2, 0), (2, 77), (2, 114), (0, i), (3, 0), (3, 0)] [] v 115) ∧
    ((zand (zgS G i) 63) = 16 → K 28 [(2, (-20)), (2, 0), (2, 77), (2, 114), (0, i), (3, 0), (3, 0)] [] v 115) ∧
    ((zand (zgS G i) 63) = 17 → K 29 [(2, (-20)), (2, 0), (2, 77), (2, 114), (0, i), (3, 0), (3, 0)] [] v 115) ∧
    ((zand (zgS G i) 63) = 18 → K 30 [(2, (-20)), (2, 0), (2, 77), (2, 114), (0, i), (3, 0), (3, 0)] [] v 115) ∧
    ((zand (zgS G i) 63) = 19 → K 31 [(2, (-20)), (2, 0), (2, 77), (2, 114), (0, i), (3, 0), (3, 0)] [] v 115) ∧
    ((zand (zgS G i) 63) = 20 → K 32 [(2, (-20)), (2, 0), (2, 77), (2, 114), (0, i), (3, 0), (3, 0)] [] v 115) ∧
    ((zand (zgS G i) 63) = 21 → K 33 [(2, (-20)), (2, 0), (2, 77), (2, 114), (0, i), (3, 0), (3, 0)] [] v 115) ∧
    ((zand (zgS G i) 63) = 22 → K 34 [(2, (-20)), (2, 0), (2, 77), (2, 114), (0, i), (3, 0), (3, 0)] [] v 115) ∧
    ((zand (zgS G i) 63) = 23 → K 35 [(2, (-20)), (2, 0), (2, 77), (2, 114), (0, i), (3, 0), (3, 0)] [] v 115) ∧
    ((zand (zgS G i) 63) = 24 → K 36 [(2, (-20)), (2, 0), (2, 77), (2, 114), (0, i), (3, 0), (3, 0)] [] v 115) ∧
    ((zand (zgS G i) 63) = 25 → K 37 [(2, (-20)), (2, 0), (2, 77), (2, 114), (0, i), (3, 0), (3, 0)] [] v 115) ∧
    ((zand (zgS G i) 63) = 26 → K 38 [(2, (-20)), (2, 0), (2, 77), (2, 114), (0, i), (3, 0), (3, 0)] [] v 115) ∧
    ((zand (zgS G i) 63) = 27 → K 39 [(2, (-20)), (2, 0), (2, 77), (2, 114), (0, i), (3, 0), (3, 0)] [] v 115) ∧
    ((zand (zgS G i) 63) = 28 → K 40 [(2, (-20)), (2, 0), (2, 77), (2, 114), (0, i), (3, 0), (3, 0)] [] v 115) ∧
    ((zand (zgS G i) 63) = 29 → K 41 [(2, (-20)), (2, 0), (2, 77), (2, 114), (0, i), (3, 0), (3, 0)] [] v 115) ∧
    ((zand (zgS G i) 63) = 30 → K 42 [(2, (-20)), (2, 0), (2, 77), (2, 114), (0, i), (3, 0), (3, 0)] [] v 115) ∧
    ((zand (zgS G i) 63) = 31 → K 43 [(2, (-20)), (2, 0), (2, 77), (2, 114), (0, i), (3, 0), (3, 0)] [] v 115) ∧
    ((zand (zgS G i) 63) = 32 → K 44 [(2, (-20)), (2, 0), (2, 77), (2, 114), (0, i), (3, 0), (3, 0)] [] v 115) ∧
    ((zand (zgS G i) 63) = 33 → K 45 [(2, (-20)), (2, 0), (2, 77), (2, 114), (0, i), (3, 0), (3, 0)] [] v 115) ∧
    ((zand (zgS G i) 63) = 34 → K 46 [(2, (-20)), (2, 0), (2, 77), (2, 114), (0, i), (3, 0), (3, 0)] [] v 115) ∧
    ((zand (zgS G i) 63) = 35 → K 47 [(2, (-20)), (2, 0), (2, 77), (2, 114), (0, i), (3, 0), (3, 0)] [] v 115) ∧
    (36 ≤ (zand (zgS G i) 63) → K 48 [(2, (-20)), (2, 0), (2, 77), (2, 114), (0, i), (3, 0), (3, 0)] [] v 115))))) : zx l G 1 (d + 1) h_Lw_law k_Lh 115 Q QX K 300 (k_Lh.drop 0) [(2, (-20)), (2, 0), (2, 77), (2, 114), (0, i), (3, 0), (3, 0)] [] v 115 := h
set_option maxRecDepth 100000 in
theorem sg_L0 {l : Launch} {G : zG} {d : Nat} {Q : Int → zH → Prop} {QX : Nat → zH → Prop} {K : Nat → List zV → List zV → zH → Nat → Prop} {i : Int} {v : zH} (h : zI (i + 1) ∧ ((-20)) = -20 ∧ (0 ≤ (i + 1) ∧ (i + 1) < zgL G) ∧ zI (i + 2) ∧ ((-20)) = -20 ∧ (0 ≤ (i + 2) ∧ (i + 2) < zgL G) ∧ zI (i + 3) ∧ ((-20)) = -20 ∧ (0 ≤ (i + 3) ∧ (i + 3) < zgL G) ∧ zI (i + 4) ∧ ((-20)) = -20 ∧ (0 ≤ (i + 4) ∧ (i + 4) < zgL G) ∧ zI (i + 5) ∧ ((-20)) = -20 ∧ (0 ≤ (i + 5) ∧ (i + 5) < zgL G) ∧ zCL 0 = 10 ∧ zC l G 1 d h_W_feed [(2, 0), (0, zgS G (i + 1)), (0, zgS G (i + 2)), (0, zgS G (i + 3)), (0, zgS G (i + 4)), (0, zgS G (i + 5))] v 115 (fun r1 v1 =>
  zI (i + 1) ∧ ((-20)) = -20 ∧ (0 ≤ (i + 1) ∧ (i + 1) < zgL G) ∧ zI (i + 2) ∧ ((-20)) = -20 ∧ (0 ≤ (i + 2) ∧ (i + 2) < zgL G) ∧ zI (i + 3) ∧ ((-20)) = -20 ∧ (0 ≤ (i + 3) ∧ (i + 3) < zgL G) ∧ zI (i + 4) ∧ ((-20)) = -20 ∧ (0 ≤ (i + 4) ∧ (i + 4) < zgL G) ∧ zI (i + 5) ∧ ((-20)) = -20 ∧ (0 ≤ (i + 5) ∧ (i + 5) < zgL G) ∧ zCL 77 = 11 ∧ zC l G 1 d h_M_feed [(2, 77), (0, zgS G (i + 1)), (0, zgS G (i + 2)), (0, zgS G (i + 3)), (0, zgS G (i + 4)), (0, zgS G (i + 5))] v1 115 (fun r2 v2 =>
  ((r1 = r2 →
  K 57 [(2, (-20)), (2, 0), (2, 77), (2, 114), (0, i), (3, 0), (3, 0)] [] v2 115) ∧
  (¬ r1 = r2 →
  ((0 : Int) = 0 ∨ (0 : Int) = 1) ∧ Q 0 v2))))) : zx l G 1 (d + 1) h_Lw_law k_L0 115 Q QX K 300 (k_L0.drop 0) [(2, (-20)), (2, 0), (2, 77), (2, 114), (0, i), (3, 0), (3, 0)] [] v 115 := h
set_option maxRecDepth 100000 in
theorem sg_L1 {l : Launch} {G : zG} {d : Nat} {Q : Int → zH → Prop} {QX : Nat → zH → Prop} {K : Nat → List zV → List zV → zH → Nat → Prop} {i : Int} {v : zH} (h : zI (i + 1) ∧ ((-20)) = -20 ∧ (0 ≤ (i + 1) ∧ (i + 1) < zgL G) ∧ zCL 0 = 10 ∧ zC l G 1 d h_W_end [(2, 0), (0, zgS G (i + 1))] v 115 (fun r1 v1 =>
  zI (i + 1) ∧ ((-20)) = -20 ∧ (0 ≤ (i + 1) ∧ (i + 1) < zgL G) ∧ zCL 77 = 11 ∧ zC l G 1 d h_M_end [(2, 77), (0, zgS G (i + 1))] v1 115 (fun r2 v2 =>
  ((r1 = r2 →
  K 17 [(2, (-20)), (2, 0), (2, 77), (2, 114), (0, i), (3, 0), (3, 0)] [] v2 115) ∧
  (¬ r1 = r2 →
  ((0 : Int) = 0 ∨ (0 : Int) = 1) ∧ Q 0 v2))))) : zx l G 1 (d + 1) h_Lw_law k_L1 115 Q QX K 300 (k_L1.drop 0) [(2, (-20)), (2, 0), (2, 77), (2, 114), (0, i), (3, 0), (3, 0)] [] v 115 := h
set_option maxRecDepth 100000 in
theorem sg_L2 {l : Launch} {G : zG} {d : Nat} {Q : Int → zH → Prop} {QX : Nat → zH → Prop} {K : Nat → List zV → List zV → zH → Nat → Prop} {i : Int} {v : zH} (h : zI (i + 1) ∧ ((-20)) = -20 ∧ (0 ≤ (i + 1) ∧ (i + 1) < zgL G) ∧ zCL 0 = 10 ∧ zC l G 1 d h_W_fault [(2, 0), (0, zgS G (i + 1))] v 115 (fun r1 v1 =>
  zI (i + 1) ∧ ((-20)) = -20 ∧ (0 ≤ (i + 1) ∧ (i + 1) < zgL G) ∧ zCL 77 = 11 ∧ zC l G 1 d h_M_fault [(2, 77), (0, zgS G (i + 1))] v1 115 (fun r2 v2 =>
  ((r1 = r2 →
  K 17 [(2, (-20)), (2, 0), (2, 77), (2, 114), (0, i), (3, 0), (3, 0)] [] v2 115) ∧
  (¬ r1 = r2 →
  ((0 : Int) = 0 ∨ (0 : Int) = 1) ∧ Q 0 v2))))) : zx l G 1 (d + 1) h_Lw_law k_L2 115 Q QX K 300 (k_L2.drop 0) [(2, (-20)), (2, 0), (2, 77), (2, 114), (0, i), (3, 0), (3, 0)] [] v 115 := h
set_option maxRecDepth 100000 in
theorem sg_L3 {l : Launch} {G : zG} {d : Nat} {Q : Int → zH → Prop} {QX : Nat → zH → Prop} {K : Nat → List zV → List zV → zH → Nat → Prop} {i : Int} {v : zH} (h : zI (i + 1) ∧ ((-20)) = -20 ∧ (0 ≤ (i + 1) ∧ (i + 1) < zgL G) ∧ zCL 0 = 10 ∧ zC l G 1 d h_W_text [(2, 0), (0, zgS G (i + 1))] v 115 (fun r1 v1 =>
  zI (i + 1) ∧ ((-20)) = -20 ∧ (0 ≤ (i + 1) ∧ (i + 1) < zgL G) ∧ zCL 77 = 11 ∧ zC l G 1 d h_M_text [(2, 77), (0, zgS G (i + 1))] v1 115 (fun r2 v2 =>
  ((r1 = r2 →
  K 17 [(2, (-20)), (2, 0), (2, 77), (2, 114), (0, i), (3, 0), (3, 0)] [] v2 115) ∧
  (¬ r1 = r2 →
  ((0 : Int) = 0 ∨ (0 : Int) = 1) ∧ Q 0 v2))))) : zx l G 1 (d + 1) h_Lw_law k_L3 115 Q QX K 300 (k_L3.drop 0) [(2, (-20)), (2, 0), (2, 77), (2, 114), (0, i), (3, 0), (3, 0)] [] v 115 := h
set_option maxRecDepth 100000 in
theorem sg_L4 {l : Launch} {G : zG} {d : Nat} {Q : Int → zH → Prop} {QX : Nat → zH → Prop} {K : Nat → List zV → List zV → zH → Nat → Prop} {i : Int} {v : zH} (h : zI (i + 1) ∧ ((-20)) = -20 ∧ (0 ≤ (i + 1) ∧ (i + 1) < zgL G) ∧ zI (i + 2) ∧ ((-20)) = -20 ∧ (0 ≤ (i + 2) ∧ (i + 2) < zgL G) ∧ K 12 [(2, (-20)), (2, 0), (2, 77), (2, 114), (0, i), (3, 0), (3, 0)] [(2, 114), (0, zgS G (i + 2)), (0, zgS G (i + 1)), (2, 0)] v 115) : zx l G 1 (d + 1) h_Lw_law k_L4 115 Q QX K 300 (k_L4.drop 0) [(2, (-20)), (2, 0), (2, 77), (2, 114), (0, i), (3, 0), (3, 0)] [] v 115 := h
set_option maxRecDepth 100000 in
theorem sg_L4b {l : Launch} {G : zG} {d : Nat} {Q : Int → zH → Prop} {QX : Nat → zH → Prop} {K : Nat → List zV → List zV → zH → Nat → Prop} {i r : Int} {v : zH} (h : zI (i + 1) ∧ ((-20)) = -20 ∧ (0 ≤ (i + 1) ∧ (i + 1) < zgL G) ∧ zI (i + 2) ∧ ((-20)) = -20 ∧ (0 ≤ (i + 2) ∧ (i + 2) < zgL G) ∧ zCL 77 = 11 ∧ zC l G 1 d h_M_cell [(2, 77), (0, zgS G (i + 1)), (0, zgS G (i + 2))] v 115 (fun r1 v1 =>
  zCL 77 = 11 ∧ zC l G 1 d h_M_thrown [(2, 77)] v1 115 (fun r2 v2 =>
  ((r2 = r →
  ((¬ r = 0 →
    K 32 [(2, (-20)), (2, 0), (2, 77), (2, 114), (0, i), (3, 0), (3, 0)] [] v2 115) ∧
    (r = 0 →
    zCL 114 = 22 ∧ (0 ≤ (0 : Int) ∧ 0 < zLN 114) ∧ (((zcmp (v2 114 0) r1) = 0 →
      K 32 [(2, (-20)), (2, 0), (2, 77), (2, 114), (0, i), (3, 0), (3, 0)] [] v2 115) ∧
      (¬ (zcmp (v2 114 0) r1) = 0 →
      ((0 : Int) = 0 ∨ (0 : Int) = 1) ∧ Q 0 v2))))) ∧
  (¬ r2 = r →
  ((0 : Int) = 0 ∨ (0 : Int) = 1) ∧ Q 0 v2))))) : zx l G 1 (d + 1) h_Lw_law k_L4b 115 Q QX K 300 (k_L4b.drop 0) [(2, (-20)), (2, 0), (2, 77), (2, 114), (0, i), (3, 0), (3, 0)] [(0, r)] v 115 := h
set_option maxRecDepth 100000 in
theorem sg_L5 {l : Launch} {G : zG} {d : Nat} {Q : Int → zH → Prop} {QX : Nat → zH → Prop} {K : Nat → List zV → List zV → zH → Nat → Prop} {i : Int} {v : zH} (h : zI (i + 1) ∧ ((-20)) = -20 ∧ (0 ≤ (i + 1) ∧ (i + 1) < zgL G) ∧ zI (i + 2) ∧ ((-20)) = -20 ∧ (0 ≤ (i + 2) ∧ (i + 2) < zgL G) ∧ zCL 0 = 10 ∧ zC l G 1 d h_W_stone [(2, 0), (0, zgS G (i + 1)), (0, zgS G (i + 2))] v 115 (fun r1 v1 =>
  zI (i + 1) ∧ ((-20)) = -20 ∧ (0 ≤ (i + 1) ∧ (i + 1) < zgL G) ∧ zI (i + 2) ∧ ((-20)) = -20 ∧ (0 ≤ (i + 2) ∧ (i + 2) < zgL G) ∧ zCL 77 = 11 ∧ zC l G 1 d h_M_stone [(2, 77), (0, zgS G (i + 1)), (0, zgS G (i + 2))] v1 115 (fun r2 v2 =>
  ((r1 = r2 →
  K 27 [(2, (-20)), (2, 0), (2, 77), (2, 114), (0, i), (3, 0), (3, 0)] [] v2 115) ∧
  (¬ r1 = r2 →
  ((0 : Int) = 0 ∨ (0 : Int) = 1) ∧ Q 0 v2))))) : zx l G 1 (d + 1) h_Lw_law k_L5 115 Q QX K 300 (k_L5.drop 0) [(2, (-20)), (2, 0), (2, 77), (2, 114), (0, i), (3, 0), (3, 0)] [] v 115 := h
set_option maxRecDepth 100000 in
theorem sg_L6 {l : Launch} {G : zG} {d : Nat} {Q : Int → zH → Prop} {QX : Nat → zH → Prop} {K : Nat → List zV → List zV → zH → Nat → Prop} {i : Int} {v : zH} (h : zI (i + 1) ∧ ((-20)) = -20 ∧ (0 ≤ (i + 1) ∧ (i + 1) < zgL G) ∧ zI (i + 2) ∧ ((-20)) = -20 ∧ (0 ≤ (i + 2) ∧ (i + 2) < zgL G) ∧ zCL 0 = 10 ∧ zC l G 1 d h_W_oven [(2, 0), (0, zgS G (i + 1)), (0, zgS G (i + 2))] v 115 (fun r1 v1 =>
  zI (i + 1) ∧ ((-20)) = -20 ∧ (0 ≤ (i + 1) ∧ (i + 1) < zgL G) ∧ zI (i + 2) ∧ ((-20)) = -20 ∧ (0 ≤ (i + 2) ∧ (i + 2) < zgL G) ∧ zCL 77 = 11 ∧ zC l G 1 d h_M_oven [(2, 77), (0, zgS G (i + 1)), (0, zgS G (i + 2))] v1 115 (fun r2 v2 =>
  ((r1 = r2 →
  K 27 [(2, (-20)), (2, 0), (2, 77), (2, 114), (0, i), (3, 0), (3, 0)] [] v2 115) ∧
  (¬ r1 = r2 →
  ((0 : Int) = 0 ∨ (0 : Int) = 1) ∧ Q 0 v2))))) : zx l G 1 (d + 1) h_Lw_law k_L6 115 Q QX K 300 (k_L6.drop 0) [(2, (-20)), (2, 0), (2, 77), (2, 114), (0, i), (3, 0), (3, 0)] [] v 115 := h
set_option maxRecDepth 100000 in
theorem sg_L7 {l : Launch} {G : zG} {d : Nat} {Q : Int → zH → Prop} {QX : Nat → zH → Prop} {K : Nat → List zV → List zV → zH → Nat → Prop} {i : Int} {v : zH} (h : zI (i + 1) ∧ ((-20)) = -20 ∧ (0 ≤ (i + 1) ∧ (i + 1) < zgL G) ∧ zI (i + 2) ∧ ((-20)) = -20 ∧ (0 ≤ (i + 2) ∧ (i + 2) < zgL G) ∧ zCL 0 = 10 ∧ zC l G 1 d h_W_sleeper [(2, 0), (0, zgS G (i + 1)), (0, zgS G (i + 2))] v 115 (fun r1 v1 =>
  zI (i + 1) ∧ ((-20)) = -20 ∧ (0 ≤ (i + 1) ∧ (i + 1) < zgL G) ∧ zI (i + 2) ∧ ((-20)) = -20 ∧ (0 ≤ (i + 2) ∧ (i + 2) < zgL G) ∧ zCL 77 = 11 ∧ zC l G 1 d h_M_sleeper [(2, 77), (0, zgS G (i + 1)), (0, zgS G (i + 2))] v1 115 (fun r2 v2 =>
  ((r1 = r2 →
  K 27 [(2, (-20)), (2, 0), (2, 77), (2, 114), (0, i), (3, 0), (3, 0)] [] v2 115) ∧
  (¬ r1 = r2 →
  ((0 : Int) = 0 ∨ (0 : Int) = 1) ∧ Q 0 v2))))) : zx l G 1 (d + 1) h_Lw_law k_L7 115 Q QX K 300 (k_L7.drop 0) [(2, (-20)), (2, 0), (2, 77), (2, 114), (0, i), (3, 0), (3, 0)] [] v 115 := h
set_option maxRecDepth 100000 in
theorem sg_L8 {l : Launch} {G : zG} {d : Nat} {Q : Int → zH → Prop} {QX : Nat → zH → Prop} {K : Nat → List zV → List zV → zH → Nat → Prop} {i : Int} {v : zH} (h : zI (i + 1) ∧ ((-20)) = -20 ∧ (0 ≤ (i + 1) ∧ (i + 1) < zgL G) ∧ zCL 0 = 10 ∧ zC l G 1 d h_W_law [(2, 0), (0, zgS G (i + 1))] v 115 (fun r1 v1 =>
  zI (i + 1) ∧ ((-20)) = -20 ∧ (0 ≤ (i + 1) ∧ (i + 1) < zgL G) ∧ zCL 77 = 11 ∧ zC l G 1 d h_M_law [(2, 77), (0, zgS G (i + 1))] v1 115 (fun r2 v2 =>
  ((r1 = r2 →
  K 17 [(2, (-20)), (2, 0), (2, 77), (2, 114), (0, i), (3, 0), (3, 0)] [] v2 115) ∧
  (¬ r1 = r2 →
  ((0 : Int) = 0 ∨ (0 : Int) = 1) ∧ Q 0 v2))))) : zx l G 1 (d + 1) h_Lw_law k_L8 115 Q QX K 300 (k_L8.drop 0) [(2, (-20)), (2, 0), (2, 77), (2, 114), (0, i), (3, 0), (3, 0)] [] v 115 := h
set_option maxRecDepth 100000 in
theorem sg_L9 {l : Launch} {G : zG} {d : Nat} {Q : Int → zH → Prop} {QX : Nat → zH → Prop} {K : Nat → List zV → List zV → zH → Nat → Prop} {i : Int} {v : zH} (h : zI (i + 1) ∧ ((-20)) = -20 ∧ (0 ≤ (i + 1) ∧ (i + 1) < zgL G) ∧ zI (i + 2) ∧ ((-20)) = -20 ∧ (0 ≤ (i + 2) ∧ (i + 2) < zgL G) ∧ (((zgS G (i + 2)) = 0 →
  zCL 0 = 10 ∧ zC l G 1 d h_W_rain [(2, 0), (0, zgS G (i + 1)), (0, 0)] v 115 (fun r1 v1 =>
    zI (i + 1) ∧ ((-20)) = -20 ∧ (0 ≤ (i + 1) ∧ (i + 1) < zgL G) ∧ zI (i + 2) ∧ ((-20)) = -20 ∧ (0 ≤ (i + 2) ∧ (i + 2) < zgL G) ∧ (((zgS G (i + 2)) = 0 →
    zCL 77 = 11 ∧ zC l G 1 d h_M_rain [(2, 77), (0, zgS G (i + 1)), (0, 0)] v1 115 (fun r2 v2 =>
      ((r1 = r2 →
      K 35 [(2, (-20)), (2, 0), (2, 77), (2, 114), (0, i), (3, 0), (3, 0)] [] v2 115) ∧
      (¬ r1 = r2 →
      ((0 : Int) = 0 ∨ (0 : Int) = 1) ∧ Q 0 v2)))) ∧
    (¬ (zgS G (i + 2)) = 0 →
    zCL 77 = 11 ∧ zC l G 1 d h_M_rain [(2, 77), (0, zgS G (i + 1)), (0, 1)] v1 115 (fun r3 v3 =>
      ((r1 = r3 →
      K 35 [(2, (-20)), (2, 0), (2, 77), (2, 114), (0, i), (3, 0), (3, 0)] [] v3 115) ∧
      (¬ r1 = r3 →
      ((0 : Int) = 0 ∨ (0 : Int) = 1) ∧ Q 0 v3))))))) ∧
  (¬ (zgS G (i + 2)) = 0 →
  zCL 0 = 10 ∧ zC l G 1 d h_W_rain [(2, 0), (0, zgS G (i + 1)), (0, 1)] v 115 (fun r4 v4 =>
    zI (i + 1) ∧ ((-20)) = -20 ∧ (0 ≤ (i + 1) ∧ (i + 1) < zgL G) ∧ zI (i + 2) ∧ ((-20)) = -20 ∧ (0 ≤ (i + 2) ∧ (i + 2) < zgL G) ∧ (((zgS G (i + 2)) = 0 →
    zCL 77 = 11 ∧ zC l G 1 d h_M_rain [(2, 77), (0, zgS G (i + 1)), (0, 0)] v4 115 (fun r5 v5 =>
      ((r4 = r5 →
      K 35 [(2, (-20)), (2, 0), (2, 77), (2, 114), (0, i), (3, 0), (3, 0)] [] v5 115) ∧
      (¬ r4 = r5 →
      ((0 : Int) = 0 ∨ (0 : Int) = 1) ∧ Q 0 v5)))) ∧
    (¬ (zgS G (i + 2)) = 0 →
    zCL 77 = 11 ∧ zC l G 1 d h_M_rain [(2, 77), (0, zgS G (i + 1)), (0, 1)] v4 115 (fun r6 v6 =>
      ((r4 = r6 →
      K 35 [(2, (-20)), (2, 0), (2, 77), (2, 114), (0, i), (3, 0), (3, 0)] [] v6 115) ∧
      (¬ r4 = r6 →
      ((0 : Int) = 0 ∨ (0 : Int) = 1) ∧ Q 0 v6))))))))) : zx l G 1 (d + 1) h_Lw_law k_L9 115 Q QX K 300 (k_L9.drop 0) [(2, (-20)), (2, 0), (2, 77), (2, 114), (0, i), (3, 0), (3, 0)] [] v 115 := h
set_option maxRecDepth 100000 in
theorem sg_L10 {l : Launch} {G : zG} {d : Nat} {Q : Int → zH → Prop} {QX : Nat → zH → Prop} {K : Nat → List zV → List zV → zH → Nat → Prop} {i : Int} {v : zH} (h : zI (i + 1) ∧ ((-20)) = -20 ∧ (0 ≤ (i + 1) ∧ (i + 1) < zgL G) ∧ zI (i + 2) ∧ ((-20)) = -20 ∧ (0 ≤ (i + 2) ∧ (i + 2) < zgL G) ∧ zCL 0 = 10 ∧ zC l G 1 d h_W_warm [(2, 0), (0, zgS G (i + 1)), (0, zgS G (i + 2))] v 115 (fun r1 v1 =>
  zI (i + 1) ∧ ((-20)) = -20 ∧ (0 ≤ (i + 1) ∧ (i + 1) < zgL G) ∧ zI (i + 2) ∧ ((-20)) = -20 ∧ (0 ≤ (i + 2) ∧ (i + 2) < zgL G) ∧ zCL 77 = 11 ∧ zC l G 1 d h_M_warm [(2, 77), (0, zgS G (i + 1)), (0, zgS G (i + 2))] v1 115 (fun r2 v2 =>
  ((r1 = r2 →
  K 27 [(2, (-20)), (2, 0), (2, 77), (2, 114), (0, i), (3, 0), (3, 0)] [] v2 115) ∧
  (¬ r1 = r2 →
  ((0 : Int) = 0 ∨ (0 : Int) = 1) ∧ Q 0 v2))))) : zx l G 1 (d + 1) h_Lw_law k_L10 115 Q QX K 300 (k_L10.drop 0) [(2, (-20)), (2, 0), (2, 77), (2, 114), (0, i), (3, 0), (3, 0)] [] v 115 := h
set_option maxRecDepth 100000 in
theorem sg_L11 {l : Launch} {G : zG} {d : Nat} {Q : Int → zH → Prop} {QX : Nat → zH → Prop} {K : Nat → List zV → List zV → zH → Nat → Prop} {i : Int} {v : zH} (h : zI (i + 1) ∧ ((-20)) = -20 ∧ (0 ≤ (i + 1) ∧ (i + 1) < zgL G) ∧ zI (i + 2) ∧ ((-20)) = -20 ∧ (0 ≤ (i + 2) ∧ (i + 2) < zgL G) ∧ zI (i + 3) ∧ ((-20)) = -20 ∧ (0 ≤ (i + 3) ∧ (i + 3) < zgL G) ∧ zCL 0 = 10 ∧ zC l G 1 d h_W_bake [(2, 0), (0, zgS G (i + 1)), (0, zgS G (i + 2)), (0, zgS G (i + 3))] v 115 (fun r1 v1 =>
  zI (i + 1) ∧ ((-20)) = -20 ∧ (0 ≤ (i + 1) ∧ (i + 1) < zgL G) ∧ zI (i + 2) ∧ ((-20)) = -20 ∧ (0 ≤ (i + 2) ∧ (i + 2) < zgL G) ∧ zI (i + 3) ∧ ((-20)) = -20 ∧ (0 ≤ (i + 3) ∧ (i + 3) < zgL G) ∧ zCL 77 = 11 ∧ zC l G 1 d h_M_bake [(2, 77), (0, zgS G (i + 1)), (0, zgS G (i + 2)), (0, zgS G (i + 3))] v1 115 (fun r2 v2 =>
  ((r1 = r2 →
  K 37 [(2, (-20)), (2, 0), (2, 77), (2, 114), (0, i), (3, 0), (3, 0)] [] v2 115) ∧
  (¬ r1 = r2 →
  ((0 : Int) = 0 ∨ (0 : Int) = 1) ∧ Q 0 v2))))) : zx l G 1 (d + 1) h_Lw_law k_L11 115 Q QX K 300 (k_L11.drop 0) [(2, (-20)), (2, 0), (2, 77), (2, 114), (0, i), (3, 0), (3, 0)] [] v 115 := h
set_option maxRecDepth 100000 in
theorem sg_L12 {l : Launch} {G : zG} {d : Nat} {Q : Int → zH → Prop} {QX : Nat → zH → Prop} {K : Nat → List zV → List zV → zH → Nat → Prop} {i : Int} {v : zH} (h : zI (i + 1) ∧ ((-20)) = -20 ∧ (0 ≤ (i + 1) ∧ (i + 1) < zgL G) ∧ zCL 0 = 10 ∧ zC l G 1 d h_W_hours [(2, 0), (0, zgS G (i + 1))] v 115 (fun r1 v1 =>
  zI (i + 1) ∧ ((-20)) = -20 ∧ (0 ≤ (i + 1) ∧ (i + 1) < zgL G) ∧ zCL 77 = 11 ∧ zC l G 1 d h_M_hours [(2, 77), (0, zgS G (i + 1))] v1 115 (fun r2 v2 =>
  ((r1 = r2 →
  K 17 [(2, (-20)), (2, 0), (2, 77), (2, 114), (0, i), (3, 0), (3, 0)] [] v2 115) ∧
  (¬ r1 = r2 →
  ((0 : Int) = 0 ∨ (0 : Int) = 1) ∧ Q 0 v2))))) : zx l G 1 (d + 1) h_Lw_law k_L12 115 Q QX K 300 (k_L12.drop 0) [(2, (-20)), (2, 0), (2, 77), (2, 114), (0, i), (3, 0), (3, 0)] [] v 115 := h
set_option maxRecDepth 100000 in
theorem sg_L13 {l : Launch} {G : zG} {d : Nat} {Q : Int → zH → Prop} {QX : Nat → zH → Prop} {K : Nat → List zV → List zV → zH → Nat → Prop} {i : Int} {v : zH} (h : zCL 0 = 10 ∧ zC l G 1 d h_W_undo [(2, 0)] v 115 (fun r1 v1 =>
  zCL 77 = 11 ∧ zC l G 1 d h_M_undo [(2, 77)] v1 115 (fun r2 v2 =>
  ((r1 = r2 →
  K 7 [(2, (-20)), (2, 0), (2, 77), (2, 114), (0, i), (3, 0), (3, 0)] [] v2 115) ∧
  (¬ r1 = r2 →
  ((0 : Int) = 0 ∨ (0 : Int) = 1) ∧ Q 0 v2))))) : zx l G 1 (d + 1) h_Lw_law k_L13 115 Q QX K 300 (k_L13.drop 0) [(2, (-20)), (2, 0), (2, 77), (2, 114), (0, i), (3, 0), (3, 0)] [] v 115 := h
set_option maxRecDepth 100000 in
theorem sg_L14 {l : Launch} {G : zG} {d : Nat} {Q : Int → zH → Prop} {QX : Nat → zH → Prop} {K : Nat → List zV → List zV → zH → Nat → Prop} {i : Int} {v : zH} (h : zI (i + 1) ∧ ((-20)) = -20 ∧ (0 ≤ (i + 1) ∧ (i + 1) < zgL G) ∧ zI (i + 2) ∧ ((-20)) = -20 ∧ (0 ≤ (i + 2) ∧ (i + 2) < zgL G) ∧ zI (i + 3) ∧ ((-20)) = -20 ∧ (0 ≤ (i + 3) ∧ (i + 3) < zgL G) ∧ zCL 0 = 10 ∧ zC l G 1 d h_W_ahead [(2, 0), (0, zgS G (i + 1)), (0, zgS G (i + 2)), (0, zgS G (i + 3))] v 115 (fun r1 v1 =>
  zI (i + 1) ∧ ((-20)) = -20 ∧ (0 ≤ (i + 1) ∧ (i + 1) < zgL G) ∧ zI (i + 2) ∧ ((-20)) = -20 ∧ (0 ≤ (i + 2) ∧ (i + 2) < zgL G) ∧ zI (i + 3) ∧ ((-20)) = -20 ∧ (0 ≤ (i + 3) ∧ (i + 3) < zgL G) ∧ zCL 77 = 11 ∧ zC l G 1 d h_M_ahead [(2, 77), (0, zgS G (i + 1)), (0, zgS G (i + 2)), (0, zgS G (i + 3))] v1 115 (fun r2 v2 =>
  ((r1 = r2 →
  K 37 [(2, (-20)), (2, 0), (2, 77), (2, 114), (0, i), (3, 0), (3, 0)] [] v2 115) ∧
  (¬ r1 = r2 →
  ((0 : Int) = 0 ∨ (0 : Int) = 1) ∧ Q 0 v2))))) : zx l G 1 (d + 1) h_Lw_law k_L14 115 Q QX K 300 (k_L14.drop 0) [(2, (-20)), (2, 0), (2, 77), (2, 114), (0, i), (3, 0), (3, 0)] [] v 115 := h
set_option maxRecDepth 100000 in
theorem sg_L15 {l : Launch} {G : zG} {d : Nat} {Q : Int → zH → Prop} {QX : Nat → zH → Prop} {K : Nat → List zV → List zV → zH → Nat → Prop} {i : Int} {v : zH} (h : zI (i + 1) ∧ ((-20)) = -20 ∧ (0 ≤ (i + 1) ∧ (i + 1) < zgL G) ∧ zCL 0 = 10 ∧ zC l G 1 d h_W_air [(2, 0), (0, zgS G (i + 1))] v 115 (fun r1 v1 =>
  zI (i + 1) ∧ ((-20)) = -20 ∧ (0 ≤ (i + 1) ∧ (i + 1) < zgL G) ∧ zCL 77 = 11 ∧ zC l G 1 d h_M_air [(2, 77), (0, zgS G (i + 1))] v1 115 (fun r2 v2 =>
  ((r1 = r2 →
  K 17 [(2, (-20)), (2, 0), (2, 77), (2, 114), (0, i), (3, 0), (3, 0)] [] v2 115) ∧
  (¬ r1 = r2 →
  ((0 : Int) = 0 ∨ (0 : Int) = 1) ∧ Q 0 v2))))) : zx l G 1 (d + 1) h_Lw_law k_L15 115 Q QX K 300 (k_L15.drop 0) [(2, (-20)), (2, 0), (2, 77), (2, 114), (0, i), (3, 0), (3, 0)] [] v 115 := h
set_option maxRecDepth 100000 in
theorem sg_L16 {l : Launch} {G : zG} {d : Nat} {Q : Int → zH → Prop} {QX : Nat → zH → Prop} {K : Nat → List zV → List zV → zH → Nat → Prop} {i : Int} {v : zH} (h : zI (i + 1) ∧ ((-20)) = -20 ∧ (0 ≤ (i + 1) ∧ (i + 1) < zgL G) ∧ zI (i + 2) ∧ ((-20)) = -20 ∧ (0 ≤ (i + 2) ∧ (i + 2) < zgL G) ∧ zCL 0 = 10 ∧ zC l G 1 d h_W_comfort [(2, 0), (0, zgS G (i + 1)), (0, zgS G (i + 2))] v 115 (fun r1 v1 =>
  zI (i + 1) ∧ ((-20)) = -20 ∧ (0 ≤ (i + 1) ∧ (i + 1) < zgL G) ∧ zI (i + 2) ∧ ((-20)) = -20 ∧ (0 ≤ (i + 2) ∧ (i + 2) < zgL G) ∧ zCL 77 = 11 ∧ zC l G 1 d h_M_comfort [(2, 77), (0, zgS G (i + 1)), (0, zgS G (i + 2))] v1 115 (fun r2 v2 =>
  ((r1 = r2 →
  K 27 [(2, (-20)), (2, 0), (2, 77), (2, 114), (0, i), (3, 0), (3, 0)] [] v2 115) ∧
  (¬ r1 = r2 →
  ((0 : Int) = 0 ∨ (0 : Int) = 1) ∧ Q 0 v2))))) : zx l G 1 (d + 1) h_Lw_law k_L16 115 Q QX K 300 (k_L16.drop 0) [(2, (-20)), (2, 0), (2, 77), (2, 114), (0, i), (3, 0), (3, 0)] [] v 115 := h
set_option maxRecDepth 100000 in
theorem sg_L17 {l : Launch} {G : zG} {d : Nat} {Q : Int → zH → Prop} {QX : Nat → zH → Prop} {K : Nat → List zV → List zV → zH → Nat → Prop} {i : Int} {v : zH} (h : zI (i + 1) ∧ ((-20)) = -20 ∧ (0 ≤ (i + 1) ∧ (i + 1) < zgL G) ∧ zCL 0 = 10 ∧ zC l G 1 d h_W_choice [(2, 0), (0, zgS G (i + 1))] v 115 (fun r1 v1 =>
  zI (i + 1) ∧ ((-20)) = -20 ∧ (0 ≤ (i + 1) ∧ (i + 1) < zgL G) ∧ zCL 77 = 11 ∧ zC l G 1 d h_M_choice [(2, 77), (0, zgS G (i + 1))] v1 115 (fun r2 v2 =>
  ((r1 = r2 →
  K 17 [(2, (-20)), (2, 0), (2, 77), (2, 114), (0, i), (3, 0), (3, 0)] [] v2 115) ∧
  (¬ r1 = r2 →
  ((0 : Int) = 0 ∨ (0 : Int) = 1) ∧ Q 0 v2))))) : zx l G 1 (d + 1) h_Lw_law k_L17 115 Q QX K 300 (k_L17.drop 0) [(2, (-20)), (2, 0), (2, 77), (2, 114), (0, i), (3, 0), (3, 0)] [] v 115 := h
set_option maxRecDepth 100000 in
theorem sg_L18 {l : Launch} {G : zG} {d : Nat} {Q : Int → zH → Prop} {QX : Nat → zH → Prop} {K : Nat → List zV → List zV → zH → Nat → Prop} {i : Int} {v : zH} (h : zI (i + 1) ∧ ((-20)) = -20 ∧ (0 ≤ (i + 1) ∧ (i + 1) < zgL G) ∧ zCL 0 = 10 ∧ zC l G 1 d h_W_most [(2, 0), (0, zgS G (i + 1))] v 115 (fun r1 v1 =>
  zI (i + 1) ∧ ((-20)) = -20 ∧ (0 ≤ (i + 1) ∧ (i + 1) < zgL G) ∧ zCL 77 = 11 ∧ zC l G 1 d h_M_most [(2, 77), (0, zgS G (i + 1))] v1 115 (fun r2 v2 =>
  ((r1 = r2 →
  K 17 [(2, (-20)), (2, 0), (2, 77), (2, 114), (0, i), (3, 0), (3, 0)] [] v2 115) ∧
  (¬ r1 = r2 →
  ((0 : Int) = 0 ∨ (0 : Int) = 1) ∧ Q 0 v2))))) : zx l G 1 (d + 1) h_Lw_law k_L18 115 Q QX K 300 (k_L18.drop 0) [(2, (-20)), (2, 0), (2, 77), (2, 114), (0, i), (3, 0), (3, 0)] [] v 115 := h
set_option maxRecDepth 100000 in
theorem sg_L19 {l : Launch} {G : zG} {d : Nat} {Q : Int → zH → Prop} {QX : Nat → zH → Prop} {K : Nat → List zV → List zV → zH → Nat → Prop} {i : Int} {v : zH} (h : zI (i + 1) ∧ ((-20)) = -20 ∧ (0 ≤ (i + 1) ∧ (i + 1) < zgL G) ∧ zI (i + 2) ∧ ((-20)) = -20 ∧ (0 ≤ (i + 2) ∧ (i + 2) < zgL G) ∧ zI (i + 3) ∧ ((-20)) = -20 ∧ (0 ≤ (i + 3) ∧ (i + 3) < zgL G) ∧ zCL 0 = 10 ∧ zC l G 1 d h_W_changed [(2, 0), (0, zgS G (i + 1)), (0, zgS G (i + 2)), (0, zgS G (i + 3))] v 115 (fun r1 v1 =>
  zI (i + 1) ∧ ((-20)) = -20 ∧ (0 ≤ (i + 1) ∧ (i + 1) < zgL G) ∧ zI (i + 2) ∧ ((-20)) = -20 ∧ (0 ≤ (i + 2) ∧ (i + 2) < zgL G) ∧ zI (i + 3) ∧ ((-20)) = -20 ∧ (0 ≤ (i + 3) ∧ (i + 3) < zgL G) ∧ zCL 77 = 11 ∧ zC l G 1 d h_M_changed [(2, 77), (0, zgS G (i + 1)), (0, zgS G (i + 2)), (0, zgS G (i + 3))] v1 115 (fun r2 v2 =>
  ((r1 = r2 →
  K 37 [(2, (-20)), (2, 0), (2, 77), (2, 114), (0, i), (3, 0), (3, 0)] [] v2 115) ∧
  (¬ r1 = r2 →
  ((0 : Int) = 0 ∨ (0 : Int) = 1) ∧ Q 0 v2))))) : zx l G 1 (d + 1) h_Lw_law k_L19 115 Q QX K 300 (k_L19.drop 0) [(2, (-20)), (2, 0), (2, 77), (2, 114), (0, i), (3, 0), (3, 0)] [] v 115 := h
set_option maxRecDepth 100000 in
theorem sg_L20 {l : Launch} {G : zG} {d : Nat} {Q : Int → zH → Prop} {QX : Nat → zH → Prop} {K : Nat → List zV → List zV → zH → Nat → Prop} {i : Int} {v : zH} (h : zI (i + 1) ∧ ((-20)) = -20 ∧ (0 ≤ (i + 1) ∧ (i + 1) < zgL G) ∧ zCL 0 = 10 ∧ zC l G 1 d h_W_laid [(2, 0), (0, zgS G (i + 1))] v 115 (fun r1 v1 =>
  zI (i + 1) ∧ ((-20)) = -20 ∧ (0 ≤ (i + 1) ∧ (i + 1) < zgL G) ∧ zCL 77 = 11 ∧ zC l G 1 d h_M_laid [(2, 77), (0, zgS G (i + 1))] v1 115 (fun r2 v2 =>
  ((r1 = r2 →
  K 17 [(2, (-20)), (2, 0), (2, 77), (2, 114), (0, i), (3, 0), (3, 0)] [] v2 115) ∧
  (¬ r1 = r2 →
  ((0 : Int) = 0 ∨ (0 : Int) = 1) ∧ Q 0 v2))))) : zx l G 1 (d + 1) h_Lw_law k_L20 115 Q QX K 300 (k_L20.drop 0) [(2, (-20)), (2, 0), (2, 77), (2, 114), (0, i), (3, 0), (3, 0)] [] v 115 := h
set_option maxRecDepth 100000 in
theorem sg_L21 {l : Launch} {G : zG} {d : Nat} {Q : Int → zH → Prop} {QX : Nat → zH → Prop} {K : Nat → List zV → List zV → zH → Nat → Prop} {i : Int} {v : zH} (h : zI (i + 1) ∧ ((-20)) = -20 ∧ (0 ≤ (i + 1) ∧ (i + 1) < zgL G) ∧ zI (i + 2) ∧ ((-20)) = -20 ∧ (0 ≤ (i + 2) ∧ (i + 2) < zgL G) ∧ zI (i + 3) ∧ ((-20)) = -20 ∧ (0 ≤ (i + 3) ∧ (i + 3) < zgL G) ∧ zCL 0 = 10 ∧ zC l G 1 d h_W_touched [(2, 0), (0, zgS G (i + 1)), (0, zgS G (i + 2)), (0, zgS G (i + 3))] v 115 (fun r1 v1 =>
  zI (i + 1) ∧ ((-20)) = -20 ∧ (0 ≤ (i + 1) ∧ (i + 1) < zgL G) ∧ zI (i + 2) ∧ ((-20)) = -20 ∧ (0 ≤ (i + 2) ∧ (i + 2) < zgL G) ∧ zI (i + 3) ∧ ((-20)) = -20 ∧ (0 ≤ (i + 3) ∧ (i + 3) < zgL G) ∧ zCL 77 = 11 ∧ zC l G 1 d h_M_touched [(2, 77), (0, zgS G (i + 1)), (0, zgS G (i + 2)), (0, zgS G (i + 3))] v1 115 (fun r2 v2 =>
  ((r1 = r2 →
  K 37 [(2, (-20)), (2, 0), (2, 77), (2, 114), (0, i), (3, 0), (3, 0)] [] v2 115) ∧
  (¬ r1 = r2 →
  ((0 : Int) = 0 ∨ (0 : Int) = 1) ∧ Q 0 v2))))) : zx l G 1 (d + 1) h_Lw_law k_L21 115 Q QX K 300 (k_L21.drop 0) [(2, (-20)), (2, 0), (2, 77), (2, 114), (0, i), (3, 0), (3, 0)] [] v 115 := h
set_option maxRecDepth 100000 in
theorem sg_L22 {l : Launch} {G : zG} {d : Nat} {Q : Int → zH → Prop} {QX : Nat → zH → Prop} {K : Nat → List zV → List zV → zH → Nat → Prop} {i : Int} {v : zH} (h : zI (i + 1) ∧ ((-20)) = -20 ∧ (0 ≤ (i + 1) ∧ (i + 1) < zgL G) ∧ zCL 0 = 10 ∧ zC l G 1 d h_W_fits [(2, 0), (0, zgS G (i + 1))] v 115 (fun r1 v1 =>
  zI (i + 1) ∧ ((-20)) = -20 ∧ (0 ≤ (i + 1) ∧ (i + 1) < zgL G) ∧ zCL 77 = 11 ∧ zC l G 1 d h_M_fits [(2, 77), (0, zgS G (i + 1))] v1 115 (fun r2 v2 =>
  ((r1 = r2 →
  K 17 [(2, (-20)), (2, 0), (2, 77), (2, 114), (0, i), (3, 0), (3, 0)] [] v2 115) ∧
  (¬ r1 = r2 →
  ((0 : Int) = 0 ∨ (0 : Int) = 1) ∧ Q 0 v2))))) : zx l G 1 (d + 1) h_Lw_law k_L22 115 Q QX K 300 (k_L22.drop 0) [(2, (-20)), (2, 0), (2, 77), (2, 114), (0, i), (3, 0), (3, 0)] [] v 115 := h
set_option maxRecDepth 100000 in
theorem sg_L23 {l : Launch} {G : zG} {d : Nat} {Q : Int → zH → Prop} {QX : Nat → zH → Prop} {K : Nat → List zV → List zV → zH → Nat → Prop} {i : Int} {v : zH} (h : zI (i + 1) ∧ ((-20)) = -20 ∧ (0 ≤ (i + 1) ∧ (i + 1) < zgL G) ∧ zI (i + 2) ∧ ((-20)) = -20 ∧ (0 ≤ (i + 2) ∧ (i + 2) < zgL G) ∧ zI (i + 3) ∧ ((-20)) = -20 ∧ (0 ≤ (i + 3) ∧ (i + 3) < zgL G) ∧ zCL 0 = 10 ∧ zC l G 1 d h_W_touch [(2, 0), (0, zgS G (i + 1)), (0, zgS G (i + 2)), (0, zgS G (i + 3))] v 115 (fun r1 v1 =>
  zI (i + 1) ∧ ((-20)) = -20 ∧ (0 ≤ (i + 1) ∧ (i + 1) < zgL G) ∧ zI (i + 2) ∧ ((-20)) = -20 ∧ (0 ≤ (i + 2) ∧ (i + 2) < zgL G) ∧ zI (i + 3) ∧ ((-20)) = -20 ∧ (0 ≤ (i + 3) ∧ (i + 3) < zgL G) ∧ zCL 77 = 11 ∧ zC l G 1 d h_M_touch [(2, 77), (0, zgS G (i + 1)), (0, zgS G (i + 2)), (0, zgS G (i + 3))] v1 115 (fun r2 v2 =>
  ((r1 = r2 →
  K 37 [(2, (-20)), (2, 0), (2, 77), (2, 114), (0, i), (3, 0), (3, 0)] [] v2 115) ∧
  (¬ r1 = r2 →
  ((0 : Int) = 0 ∨ (0 : Int) = 1) ∧ Q 0 v2))))) : zx l G 1 (d + 1) h_Lw_law k_L23 115 Q QX K 300 (k_L23.drop 0) [(2, (-20)), (2, 0), (2, 77), (2, 114), (0, i), (3, 0), (3, 0)] [] v 115 := h
set_option maxRecDepth 100000 in
theorem sg_L24 {l : Launch} {G : zG} {d : Nat} {Q : Int → zH → Prop} {QX : Nat → zH → Prop} {K : Nat → List zV → List zV → zH → Nat → Prop} {i : Int} {v : zH} (h : zI (i + 1) ∧ ((-20)) = -20 ∧ (0 ≤ (i + 1) ∧ (i + 1) < zgL G) ∧ zI (i + 2) ∧ ((-20)) = -20 ∧ (0 ≤ (i + 2) ∧ (i + 2) < zgL G) ∧ zCL 0 = 10 ∧ zC l G 1 d h_W_without [(2, 0), (0, zgS G (i + 1)), (0, zgS G (i + 2))] v 115 (fun r1 v1 =>
  zI (i + 1) ∧ ((-20)) = -20 ∧ (0 ≤ (i + 1) ∧ (i + 1) < zgL G) ∧ zI (i + 2) ∧ ((-20)) = -20 ∧ (0 ≤ (i + 2) ∧ (i + 2) < zgL G) ∧ zCL 77 = 11 ∧ zC l G 1 d h_M_without [(2, 77), (0, zgS G (i + 1)), (0, zgS G (i + 2))] v1 115 (fun r2 v2 =>
  ((r1 = r2 →
  K 27 [(2, (-20)), (2, 0), (2, 77), (2, 114), (0, i), (3, 0), (3, 0)] [] v2 115) ∧
  (¬ r1 = r2 →
  ((0 : Int) = 0 ∨ (0 : Int) = 1) ∧ Q 0 v2))))) : zx l G 1 (d + 1) h_Lw_law k_L24 115 Q QX K 300 (k_L24.drop 0) [(2, (-20)), (2, 0), (2, 77), (2, 114), (0, i), (3, 0), (3, 0)] [] v 115 := h
set_option maxRecDepth 100000 in
theorem sg_L25 {l : Launch} {G : zG} {d : Nat} {Q : Int → zH → Prop} {QX : Nat → zH → Prop} {K : Nat → List zV → List zV → zH → Nat → Prop} {i : Int} {v : zH} (h : zI (i + 1) ∧ ((-20)) = -20 ∧ (0 ≤ (i + 1) ∧ (i + 1) < zgL G) ∧ zI (i + 2) ∧ ((-20)) = -20 ∧ (0 ≤ (i + 2) ∧ (i + 2) < zgL G) ∧ zCL 0 = 10 ∧ zC l G 1 d h_W_coldest [(2, 0), (0, zgS G (i + 1)), (0, zgS G (i + 2))] v 115 (fun r1 v1 =>
  zI (i + 1) ∧ ((-20)) = -20 ∧ (0 ≤ (i + 1) ∧ (i + 1) < zgL G) ∧ zI (i + 2) ∧ ((-20)) = -20 ∧ (0 ≤ (i + 2) ∧ (i + 2) < zgL G) ∧ zCL 77 = 11 ∧ zC l G 1 d h_M_coldest [(2, 77), (0, zgS G (i + 1)), (0, zgS G (i + 2))] v1 115 (fun r2 v2 =>
  ((r1 = r2 →
  K 27 [(2, (-20)), (2, 0), (2, 77), (2, 114), (0, i), (3, 0), (3, 0)] [] v2 115) ∧
  (¬ r1 = r2 →
  ((0 : Int) = 0 ∨ (0 : Int) = 1) ∧ Q 0 v2))))) : zx l G 1 (d + 1) h_Lw_law k_L25 115 Q QX K 300 (k_L25.drop 0) [(2, (-20)), (2, 0), (2, 77), (2, 114), (0, i), (3, 0), (3, 0)] [] v 115 := h
set_option maxRecDepth 100000 in
theorem sg_L26 {l : Launch} {G : zG} {d : Nat} {Q : Int → zH → Prop} {QX : Nat → zH → Prop} {K : Nat → List zV → List zV → zH → Nat → Prop} {i : Int} {v : zH} (h : zI (i + 1) ∧ ((-20)) = -20 ∧ (0 ≤ (i + 1) ∧ (i + 1) < zgL G) ∧ zCL 0 = 10 ∧ zC l G 1 d h_W_frost [(2, 0), (0, zgS G (i + 1))] v 115 (fun r1 v1 =>
  zI (i + 1) ∧ ((-20)) = -20 ∧ (0 ≤ (i + 1) ∧ (i + 1) < zgL G) ∧ zCL 77 = 11 ∧ zC l G 1 d h_M_frost [(2, 77), (0, zgS G (i + 1))] v1 115 (fun r2 v2 =>
  ((r1 = r2 →
  K 17 [(2, (-20)), (2, 0), (2, 77), (2, 114), (0, i), (3, 0), (3, 0)] [] v2 115) ∧
  (¬ r1 = r2 →
  ((0 : Int) = 0 ∨ (0 : Int) = 1) ∧ Q 0 v2))))) : zx l G 1 (d + 1) h_Lw_law k_L26 115 Q QX K 300 (k_L26.drop 0) [(2, (-20)), (2, 0), (2, 77), (2, 114), (0, i), (3, 0), (3, 0)] [] v 115 := h
set_option maxRecDepth 100000 in
theorem sg_L27 {l : Launch} {G : zG} {d : Nat} {Q : Int → zH → Prop} {QX : Nat → zH → Prop} {K : Nat → List zV → List zV → zH → Nat → Prop} {i : Int} {v : zH} (h : zI (i + 1) ∧ ((-20)) = -20 ∧ (0 ≤ (i + 1) ∧ (i + 1) < zgL G) ∧ zCL 0 = 10 ∧ zC l G 1 d h_W_spread [(2, 0), (0, zgS G (i + 1))] v 115 (fun r1 v1 =>
  zI (i + 1) ∧ ((-20)) = -20 ∧ (0 ≤ (i + 1) ∧ (i + 1) < zgL G) ∧ zCL 77 = 11 ∧ zC l G 1 d h_M_spread [(2, 77), (0, zgS G (i + 1))] v1 115 (fun r2 v2 =>
  ((r1 = r2 →
  K 17 [(2, (-20)), (2, 0), (2, 77), (2, 114), (0, i), (3, 0), (3, 0)] [] v2 115) ∧
  (¬ r1 = r2 →
  ((0 : Int) = 0 ∨ (0 : Int) = 1) ∧ Q 0 v2))))) : zx l G 1 (d + 1) h_Lw_law k_L27 115 Q QX K 300 (k_L27.drop 0) [(2, (-20)), (2, 0), (2, 77), (2, 114), (0, i), (3, 0), (3, 0)] [] v 115 := h
set_option maxRecDepth 100000 in
theorem sg_L28 {l : Launch} {G : zG} {d : Nat} {Q : Int → zH → Prop} {QX : Nat → zH → Prop} {K : Nat → List zV → List zV → zH → Nat → Prop} {i : Int} {v : zH} (h : zI (i + 1) ∧ ((-20)) = -20 ∧ (0 ≤ (i + 1) ∧ (i + 1) < zgL G) ∧ zI (i + 2) ∧ ((-20)) = -20 ∧ (0 ≤ (i + 2) ∧ (i + 2) < zgL G) ∧ zI (i + 3) ∧ ((-20)) = -20 ∧ (0 ≤ (i + 3) ∧ (i + 3) < zgL G) ∧ zCL 0 = 10 ∧ zC l G 1 d h_W_timing [(2, 0), (0, zgS G (i + 1)), (0, zgS G (i + 2)), (0, zgS G (i + 3))] v 115 (fun r1 v1 =>
  zI (i + 1) ∧ ((-20)) = -20 ∧ (0 ≤ (i + 1) ∧ (i + 1) < zgL G) ∧ zI (i + 2) ∧ ((-20)) = -20 ∧ (0 ≤ (i + 2) ∧ (i + 2) < zgL G) ∧ zI (i + 3) ∧ ((-20)) = -20 ∧ (0 ≤ (i + 3) ∧ (i + 3) < zgL G) ∧ zCL 77 = 11 ∧ zC l G 1 d h_M_timing [(2, 77), (0, zgS G (i + 1)), (0, zgS G (i + 2)), (0, zgS G (i + 3))] v1 115 (fun r2 v2 =>
  ((r1 = r2 →
  K 37 [(2, (-20)), (2, 0), (2, 77), (2, 114), (0, i), (3, 0), (3, 0)] [] v2 115) ∧
  (¬ r1 = r2 →
  ((0 : Int) = 0 ∨ (0 : Int) = 1) ∧ Q 0 v2))))) : zx l G 1 (d + 1) h_Lw_law k_L28 115 Q QX K 300 (k_L28.drop 0) [(2, (-20)), (2, 0), (2, 77), (2, 114), (0, i), (3, 0), (3, 0)] [] v 115 := h
set_option maxRecDepth 100000 in
theorem sg_L29 {l : Launch} {G : zG} {d : Nat} {Q : Int → zH → Prop} {QX : Nat → zH → Prop} {K : Nat → List zV → List zV → zH → Nat → Prop} {i : Int} {v : zH} (h : zI (i + 1) ∧ ((-20)) = -20 ∧ (0 ≤ (i + 1) ∧ (i + 1) < zgL G) ∧ zI (i + 2) ∧ ((-20)) = -20 ∧ (0 ≤ (i + 2) ∧ (i + 2) < zgL G) ∧ zI (i + 3) ∧ ((-20)) = -20 ∧ (0 ≤ (i + 3) ∧ (i + 3) < zgL G) ∧ zCL 0 = 10 ∧ zC l G 1 d h_W_flow [(2, 0), (0, zgS G (i + 1)), (0, zgS G (i + 2)), (0, zgS G (i + 3))] v 115 (fun r1 v1 =>
  zI (i + 1) ∧ ((-20)) = -20 ∧ (0 ≤ (i + 1) ∧ (i + 1) < zgL G) ∧ zI (i + 2) ∧ ((-20)) = -20 ∧ (0 ≤ (i + 2) ∧ (i + 2) < zgL G) ∧ zI (i + 3) ∧ ((-20)) = -20 ∧ (0 ≤ (i + 3) ∧ (i + 3) < zgL G) ∧ zCL 77 = 11 ∧ zC l G 1 d h_M_flow [(2, 77), (0, zgS G (i + 1)), (0, zgS G (i + 2)), (0, zgS G (i + 3))] v1 115 (fun r2 v2 =>
  ((r1 = r2 →
  K 37 [(2, (-20)), (2, 0), (2, 77), (2, 114), (0, i), (3, 0), (3, 0)] [] v2 115) ∧
  (¬ r1 = r2 →
  ((0 : Int) = 0 ∨ (0 : Int) = 1) ∧ Q 0 v2))))) : zx l G 1 (d + 1) h_Lw_law k_L29 115 Q QX K 300 (k_L29.drop 0) [(2, (-20)), (2, 0), (2, 77), (2, 114), (0, i), (3, 0), (3, 0)] [] v 115 := h
set_option maxRecDepth 100000 in
theorem sg_L30 {l : Launch} {G : zG} {d : Nat} {Q : Int → zH → Prop} {QX : Nat → zH → Prop} {K : Nat → List zV → List zV → zH → Nat → Prop} {i : Int} {v : zH} (h : zI (i + 1) ∧ ((-20)) = -20 ∧ (0 ≤ (i + 1) ∧ (i + 1) < zgL G) ∧ zI (i + 2) ∧ ((-20)) = -20 ∧ (0 ≤ (i + 2) ∧ (i + 2) < zgL G) ∧ zCL 0 = 10 ∧ zC l G 1 d h_W_giver [(2, 0), (0, zgS G (i + 1)), (0, zgS G (i + 2))] v 115 (fun r1 v1 =>
  zI (i + 1) ∧ ((-20)) = -20 ∧ (0 ≤ (i + 1) ∧ (i + 1) < zgL G) ∧ zI (i + 2) ∧ ((-20)) = -20 ∧ (0 ≤ (i + 2) ∧ (i + 2) < zgL G) ∧ zCL 77 = 11 ∧ zC l G 1 d h_M_giver [(2, 77), (0, zgS G (i + 1)), (0, zgS G (i + 2))] v1 115 (fun r2 v2 =>
  ((r1 = r2 →
  K 27 [(2, (-20)), (2, 0), (2, 77), (2, 114), (0, i), (3, 0), (3, 0)] [] v2 115) ∧
  (¬ r1 = r2 →
  ((0 : Int) = 0 ∨ (0 : Int) = 1) ∧ Q 0 v2))))) : zx l G 1 (d + 1) h_Lw_law k_L30 115 Q QX K 300 (k_L30.drop 0) [(2, (-20)), (2, 0), (2, 77), (2, 114), (0, i), (3, 0), (3, 0)] [] v 115 := h
set_option maxRecDepth 100000 in
theorem sg_L31 {l : Launch} {G : zG} {d : Nat} {Q : Int → zH → Prop} {QX : Nat → zH → Prop} {K : Nat → List zV → List zV → zH → Nat → Prop} {i : Int} {v : zH} (h : zI (i + 1) ∧ ((-20)) = -20 ∧ (0 ≤ (i + 1) ∧ (i + 1) < zgL G) ∧ zI (i + 2) ∧ ((-20)) = -20 ∧ (0 ≤ (i + 2) ∧ (i + 2) < zgL G) ∧ zCL 0 = 10 ∧ zC l G 1 d h_W_thaw [(2, 0), (0, zgS G (i + 1)), (0, zgS G (i + 2))] v 115 (fun r1 v1 =>
  zI (i + 1) ∧ ((-20)) = -20 ∧ (0 ≤ (i + 1) ∧ (i + 1) < zgL G) ∧ zI (i + 2) ∧ ((-20)) = -20 ∧ (0 ≤ (i + 2) ∧ (i + 2) < zgL G) ∧ zCL 77 = 11 ∧ zC l G 1 d h_M_thaw [(2, 77), (0, zgS G (i + 1)), (0, zgS G (i + 2))] v1 115 (fun r2 v2 =>
  ((r1 = r2 →
  K 27 [(2, (-20)), (2, 0), (2, 77), (2, 114), (0, i), (3, 0), (3, 0)] [] v2 115) ∧
  (¬ r1 = r2 →
  ((0 : Int) = 0 ∨ (0 : Int) = 1) ∧ Q 0 v2))))) : zx l G 1 (d + 1) h_Lw_law k_L31 115 Q QX K 300 (k_L31.drop 0) [(2, (-20)), (2, 0), (2, 77), (2, 114), (0, i), (3, 0), (3, 0)] [] v 115 := h
set_option maxRecDepth 100000 in
theorem sg_L32 {l : Launch} {G : zG} {d : Nat} {Q : Int → zH → Prop} {QX : Nat → zH → Prop} {K : Nat → List zV → List zV → zH → Nat → Prop} {i : Int} {v : zH} (h : zI (i + 1) ∧ ((-20)) = -20 ∧ (0 ≤ (i + 1) ∧ (i + 1) < zgL G) ∧ zCL 0 = 10 ∧ zC l G 1 d h_W_steady [(2, 0), (0, zgS G (i + 1))] v 115 (fun r1 v1 =>
  zI (i + 1) ∧ ((-20)) = -20 ∧ (0 ≤ (i + 1) ∧ (i + 1) < zgL G) ∧ zCL 77 = 11 ∧ zC l G 1 d h_M_steady [(2, 77), (0, zgS G (i + 1))] v1 115 (fun r2 v2 =>
  ((r1 = r2 →
  K 17 [(2, (-20)), (2, 0), (2, 77), (2, 114), (0, i), (3, 0), (3, 0)] [] v2 115) ∧
  (¬ r1 = r2 →
  ((0 : Int) = 0 ∨ (0 : Int) = 1) ∧ Q 0 v2))))) : zx l G 1 (d + 1) h_Lw_law k_L32 115 Q QX K 300 (k_L32.drop 0) [(2, (-20)), (2, 0), (2, 77), (2, 114), (0, i), (3, 0), (3, 0)] [] v 115 := h
set_option maxRecDepth 100000 in
theorem sg_L33 {l : Launch} {G : zG} {d : Nat} {Q : Int → zH → Prop} {QX : Nat → zH → Prop} {K : Nat → List zV → List zV → zH → Nat → Prop} {i : Int} {v : zH} (h : zCL 0 = 10 ∧ zC l G 1 d h_W_image [(2, 0)] v 115 (fun r1 v1 =>
  zCL 77 = 11 ∧ zC l G 1 d h_M_image [(2, 77)] v1 115 (fun r2 v2 =>
  ((r1 = r2 →
  K 7 [(2, (-20)), (2, 0), (2, 77), (2, 114), (0, i), (3, 0), (3, 0)] [] v2 115) ∧
  (¬ r1 = r2 →
  ((0 : Int) = 0 ∨ (0 : Int) = 1) ∧ Q 0 v2))))) : zx l G 1 (d + 1) h_Lw_law k_L33 115 Q QX K 300 (k_L33.drop 0) [(2, (-20)), (2, 0), (2, 77), (2, 114), (0, i), (3, 0), (3, 0)] [] v 115 := h
set_option maxRecDepth 100000 in
theorem sg_L34 {l : Launch} {G : zG} {d : Nat} {Q : Int → zH → Prop} {QX : Nat → zH → Prop} {K : Nat → List zV → List zV → zH → Nat → Prop} {i : Int} {v : zH} (h : zCL 0 = 10 ∧ zC l G 1 d h_W_back [(2, 0)] v 115 (fun r1 v1 =>
  zCL 77 = 11 ∧ zC l G 1 d h_M_back [(2, 77)] v1 115 (fun r2 v2 =>
  ((r1 = r2 →
  K 7 [(2, (-20)), (2, 0), (2, 77), (2, 114), (0, i), (3, 0), (3, 0)] [] v2 115) ∧
  (¬ r1 = r2 →
  ((0 : Int) = 0 ∨ (0 : Int) = 1) ∧ Q 0 v2))))) : zx l G 1 (d + 1) h_Lw_law k_L34 115 Q QX K 300 (k_L34.drop 0) [(2, (-20)), (2, 0), (2, 77), (2, 114), (0, i), (3, 0), (3, 0)] [] v 115 := h
set_option maxRecDepth 100000 in
theorem sg_L35 {l : Launch} {G : zG} {d : Nat} {Q : Int → zH → Prop} {QX : Nat → zH → Prop} {K : Nat → List zV → List zV → zH → Nat → Prop} {i : Int} {v : zH} (h : zI (i + 1) ∧ ((-20)) = -20 ∧ (0 ≤ (i + 1) ∧ (i + 1) < zgL G) ∧ zCL 0 = 10 ∧ zC l G 1 d h_W_count [(2, 0), (0, zgS G (i + 1))] v 115 (fun r1 v1 =>
  zI (i + 1) ∧ ((-20)) = -20 ∧ (0 ≤ (i + 1) ∧ (i + 1) < zgL G) ∧ zCL 77 = 11 ∧ zC l G 1 d h_M_count [(2, 77), (0, zgS G (i + 1))] v1 115 (fun r2 v2 =>
  ((r1 = r2 →
  K 17 [(2, (-20)), (2, 0), (2, 77), (2, 114), (0, i), (3, 0), (3, 0)] [] v2 115) ∧
  (¬ r1 = r2 →
  ((0 : Int) = 0 ∨ (0 : Int) = 1) ∧ Q 0 v2))))) : zx l G 1 (d + 1) h_Lw_law k_L35 115 Q QX K 300 (k_L35.drop 0) [(2, (-20)), (2, 0), (2, 77), (2, 114), (0, i), (3, 0), (3, 0)] [] v 115 := h
set_option maxRecDepth 100000 in
theorem sg_Li {l : Launch} {G : zG} {d : Nat} {Q : Int → zH → Prop} {QX : Nat → zH → Prop} {K : Nat → List zV → List zV → zH → Nat → Prop} {i : Int} {v : zH} (h : zI (i + 6) ∧ K 2 [(2, (-20)), (2, 0), (2, 77), (2, 114), (0, i + 6), (3, 0), (3, 0)] [] v 115) : zx l G 1 (d + 1) h_Lw_law k_Li 115 Q QX K 300 (k_Li.drop 0) [(2, (-20)), (2, 0), (2, 77), (2, 114), (0, i), (3, 0), (3, 0)] [] v 115 := h
