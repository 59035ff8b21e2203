/-! THE CLASS MADE -/
section
variable {l : Launch} {G : zG} {d : Nat} {v : zH} {Q : Int → zH → Prop}
def iv_Ta_init_1 (v : zH) : zH := zupd (zborn v 2) 1 0 (((2 : Nat) : Int))
set_option maxRecDepth 100000 in
theorem sg_Ta_init_1 {QX : Nat → zH → Prop} {K : Nat → List zV → List zV → zH → Nat → Prop} (h : zCL ((2 : Nat) : Int) = 20 ∧ 2 + 1 ≤ 2 + hMc h_Ta_init ∧ zSZ (2 + 1) ≤ zSZ 2 + hMs h_Ta_init ∧ (160 : Int) = zLN ((2 : Nat) : Int) ∧ zCL 1 = 6 ∧ 3 = 2 + hMc h_Ta_init ∧ Q 0 (zupd (zborn v 2) 1 0 (((2 : Nat) : Int)))) : zx l G 0 (d + 1) h_Ta_init k_Ta_init 2 Q QX K 300 (k_Ta_init.drop 0) [(2, 1)] [] v 2 := h
set_option maxRecDepth 100000 in
theorem c_Ta_init_1 (K : Q 0 (iv_Ta_init_1 v)) : zC l G 0 (d + 1) h_Ta_init [(2, 1)] v 2 Q := by
  refine zC_at ok_Ta_init ck_Ta_init rfl rfl (sg_Ta_init_1 ?_)
  repeat (first | refine And.intro (by decide) ?_ | refine And.intro (by unfold zI; decide) ?_ | refine And.intro (show (1 : Int) ≠ -1000 by decide) ?_)
  exact K
def iv_WR_sup_3 (v : zH) : zH := zupd v 3 0 1
set_option maxRecDepth 100000 in
theorem sg_WR_sup_3 {QX : Nat → zH → Prop} {K : Nat → List zV → List zV → zH → Nat → Prop} (h : zCL 3 = 9 ∧ Q 0 (zupd v 3 0 1)) : zx l G 0 (d + 1) h_WR_sup k_WR_sup 4 Q QX K 300 (k_WR_sup.drop 0) [(2, 3), (2, 1)] [] v 4 := h
set_option maxRecDepth 100000 in
theorem c_WR_sup_3 (K : Q 0 (iv_WR_sup_3 v)) : zC l G 0 (d + 1) h_WR_sup [(2, 3), (2, 1)] v 4 Q := by
  refine zC_at ok_WR_sup ck_WR_sup rfl rfl (sg_WR_sup_3 ?_)
  repeat (first | refine And.intro (by decide) ?_ | refine And.intro (by unfold zI; decide) ?_ | refine And.intro (show (1 : Int) ≠ -1000 by decide) ?_)
  exact K
def iv_WR_init_3 (v : zH) : zH := iv_WR_sup_3 v
set_option maxRecDepth 100000 in
theorem sg_WR_init_3 {QX : Nat → zH → Prop} {K : Nat → List zV → List zV → zH → Nat → Prop} (h : zC l G 0 d h_WR_sup [(2, 3), (2, 1)] v 4 (fun _ v1 => Q 0 v1)) : zx l G 0 (d + 1) h_WR_init k_WR_init 4 Q QX K 300 (k_WR_init.drop 0) [(2, 3), (2, 1)] [] v 4 := h
set_option maxRecDepth 100000 in
theorem c_WR_init_3 (K : Q 0 (iv_WR_init_3 v)) : zC l G 0 (d + 2) h_WR_init [(2, 3), (2, 1)] v 4 Q := by
  refine zC_at ok_WR_init ck_WR_init rfl rfl (sg_WR_init_3 ?_)
  repeat (first | refine And.intro (by decide) ?_ | refine And.intro (by unfold zI; decide) ?_ | refine And.intro (show (1 : Int) ≠ -1000 by decide) ?_)
  refine c_WR_sup_3 ?_
  repeat (first | refine And.intro (by decide) ?_ | refine And.intro (by unfold zI; decide) ?_ | refine And.intro (show (1 : Int) ≠ -1000 by decide) ?_)
  exact K
def iv_LR_sup_4 (v : zH) : zH := zupd v 4 0 1
set_option maxRecDepth 100000 in
theorem sg_LR_sup_4 {QX : Nat → zH → Prop} {K : Nat → List zV → List zV → zH → Nat → Prop} (h : zCL 4 = 3 ∧ Q 0 (zupd v 4 0 1)) : zx l G 0 (d + 1) h_LR_sup k_LR_sup 5 Q QX K 300 (k_LR_sup.drop 0) [(2, 4), (2, 1)] [] v 5 := h
set_option maxRecDepth 100000 in
theorem c_LR_sup_4 (K : Q 0 (iv_LR_sup_4 v)) : zC l G 0 (d + 1) h_LR_sup [(2, 4), (2, 1)] v 5 Q := by
  refine zC_at ok_LR_sup ck_LR_sup rfl rfl (sg_LR_sup_4 ?_)
  repeat (first | refine And.intro (by decide) ?_ | refine And.intro (by unfold zI; decide) ?_ | refine And.intro (show (1 : Int) ≠ -1000 by decide) ?_)
  exact K
def iv_LR_init_4 (v : zH) : zH := iv_LR_sup_4 v
set_option maxRecDepth 100000 in
theorem sg_LR_init_4 {QX : Nat → zH → Prop} {K : Nat → List zV → List zV → zH → Nat → Prop} (h : zC l G 0 d h_LR_sup [(2, 4), (2, 1)] v 5 (fun _ v1 => Q 0 v1)) : zx l G 0 (d + 1) h_LR_init k_LR_init 5 Q QX K 300 (k_LR_init.drop 0) [(2, 4), (2, 1)] [] v 5 := h
set_option maxRecDepth 100000 in
theorem c_LR_init_4 (K : Q 0 (iv_LR_init_4 v)) : zC l G 0 (d + 2) h_LR_init [(2, 4), (2, 1)] v 5 Q := by
  refine zC_at ok_LR_init ck_LR_init rfl rfl (sg_LR_init_4 ?_)
  repeat (first | refine And.intro (by decide) ?_ | refine And.intro (by unfold zI; decide) ?_ | refine And.intro (show (1 : Int) ≠ -1000 by decide) ?_)
  refine c_LR_sup_4 ?_
  repeat (first | refine And.intro (by decide) ?_ | refine And.intro (by unfold zI; decide) ?_ | refine And.intro (show (1 : Int) ≠ -1000 by decide) ?_)
  exact K
def iv_La_init_9 (v : zH) : zH := zupd (zborn (zupd (zborn v 10) 9 0 (((10 : Nat) : Int))) 11) 9 1 (((11 : Nat) : Int))
set_option maxRecDepth 100000 in
theorem sg_La_init_9 {QX : Nat → zH → Prop} {K : Nat → List zV → List zV → zH → Nat → Prop} (h : zCL ((10 : Nat) : Int) = 20 ∧ 10 + 1 ≤ 10 + hMc h_La_init ∧ zSZ (10 + 1) ≤ zSZ 10 + hMs h_La_init ∧ (160 : Int) = zLN ((10 : Nat) : Int) ∧ zCL 9 = 2 ∧ zCL ((11 : Nat) : Int) = 20 ∧ 11 + 1 ≤ 10 + hMc h_La_init ∧ zSZ (11 + 1) ≤ zSZ 10 + hMs h_La_init ∧ (161 : Int) = zLN ((11 : Nat) : Int) ∧ zCL 9 = 2 ∧ 12 = 10 + hMc h_La_init ∧ Q 0 (zupd (zborn (zupd (zborn v 10) 9 0 (((10 : Nat) : Int))) 11) 9 1 (((11 : Nat) : Int)))) : zx l G 0 (d + 1) h_La_init k_La_init 10 Q QX K 300 (k_La_init.drop 0) [(2, 9)] [] v 10 := h
set_option maxRecDepth 100000 in
theorem c_La_init_9 (K : Q 0 (iv_La_init_9 v)) : zC l G 0 (d + 1) h_La_init [(2, 9)] v 10 Q := by
  refine zC_at ok_La_init ck_La_init rfl rfl (sg_La_init_9 ?_)
  repeat (first | refine And.intro (by decide) ?_ | refine And.intro (by unfold zI; decide) ?_ | refine And.intro (show (1 : Int) ≠ -1000 by decide) ?_)
  exact K
def iv_La_init_12 (v : zH) : zH := zupd (zborn (zupd (zborn v 13) 12 0 (((13 : Nat) : Int))) 14) 12 1 (((14 : Nat) : Int))
set_option maxRecDepth 100000 in
theorem sg_La_init_12 {QX : Nat → zH → Prop} {K : Nat → List zV → List zV → zH → Nat → Prop} (h : zCL ((13 : Nat) : Int) = 20 ∧ 13 + 1 ≤ 13 + hMc h_La_init ∧ zSZ (13 + 1) ≤ zSZ 13 + hMs h_La_init ∧ (160 : Int) = zLN ((13 : Nat) : Int) ∧ zCL 12 = 2 ∧ zCL ((14 : Nat) : Int) = 20 ∧ 14 + 1 ≤ 13 + hMc h_La_init ∧ zSZ (14 + 1) ≤ zSZ 13 + hMs h_La_init ∧ (161 : Int) = zLN ((14 : Nat) : Int) ∧ zCL 12 = 2 ∧ 15 = 13 + hMc h_La_init ∧ Q 0 (zupd (zborn (zupd (zborn v 13) 12 0 (((13 : Nat) : Int))) 14) 12 1 (((14 : Nat) : Int)))) : zx l G 0 (d + 1) h_La_init k_La_init 13 Q QX K 300 (k_La_init.drop 0) [(2, 12)] [] v 13 := h
set_option maxRecDepth 100000 in
theorem c_La_init_12 (K : Q 0 (iv_La_init_12 v)) : zC l G 0 (d + 1) h_La_init [(2, 12)] v 13 Q := by
  refine zC_at ok_La_init ck_La_init rfl rfl (sg_La_init_12 ?_)
  repeat (first | refine And.intro (by decide) ?_ | refine And.intro (by unfold zI; decide) ?_ | refine And.intro (show (1 : Int) ≠ -1000 by decide) ?_)
  exact K
def iv_La_init_15 (v : zH) : zH := zupd (zborn (zupd (zborn v 16) 15 0 (((16 : Nat) : Int))) 17) 15 1 (((17 : Nat) : Int))
set_option maxRecDepth 100000 in
theorem sg_La_init_15 {QX : Nat → zH → Prop} {K : Nat → List zV → List zV → zH → Nat → Prop} (h : zCL ((16 : Nat) : Int) = 20 ∧ 16 + 1 ≤ 16 + hMc h_La_init ∧ zSZ (16 + 1) ≤ zSZ 16 + hMs h_La_init ∧ (160 : Int) = zLN ((16 : Nat) : Int) ∧ zCL 15 = 2 ∧ zCL ((17 : Nat) : Int) = 20 ∧ 17 + 1 ≤ 16 + hMc h_La_init ∧ zSZ (17 + 1) ≤ zSZ 16 + hMs h_La_init ∧ (161 : Int) = zLN ((17 : Nat) : Int) ∧ zCL 15 = 2 ∧ 18 = 16 + hMc h_La_init ∧ Q 0 (zupd (zborn (zupd (zborn v 16) 15 0 (((16 : Nat) : Int))) 17) 15 1 (((17 : Nat) : Int)))) : zx l G 0 (d + 1) h_La_init k_La_init 16 Q QX K 300 (k_La_init.drop 0) [(2, 15)] [] v 16 := h
set_option maxRecDepth 100000 in
theorem c_La_init_15 (K : Q 0 (iv_La_init_15 v)) : zC l G 0 (d + 1) h_La_init [(2, 15)] v 16 Q := by
  refine zC_at ok_La_init ck_La_init rfl rfl (sg_La_init_15 ?_)
  repeat (first | refine And.intro (by decide) ?_ | refine And.intro (by unfold zI; decide) ?_ | refine And.intro (show (1 : Int) ≠ -1000 by decide) ?_)
  exact K
def iv_La_init_18 (v : zH) : zH := zupd (zborn (zupd (zborn v 19) 18 0 (((19 : Nat) : Int))) 20) 18 1 (((20 : Nat) : Int))
set_option maxRecDepth 100000 in
theorem sg_La_init_18 {QX : Nat → zH → Prop} {K : Nat → List zV → List zV → zH → Nat → Prop} (h : zCL ((19 : Nat) : Int) = 20 ∧ 19 + 1 ≤ 19 + hMc h_La_init ∧ zSZ (19 + 1) ≤ zSZ 19 + hMs h_La_init ∧ (160 : Int) = zLN ((19 : Nat) : Int) ∧ zCL 18 = 2 ∧ zCL ((20 : Nat) : Int) = 20 ∧ 20 + 1 ≤ 19 + hMc h_La_init ∧ zSZ (20 + 1) ≤ zSZ 19 + hMs h_La_init ∧ (161 : Int) = zLN ((20 : Nat) : Int) ∧ zCL 18 = 2 ∧ 21 = 19 + hMc h_La_init ∧ Q 0 (zupd (zborn (zupd (zborn v 19) 18 0 (((19 : Nat) : Int))) 20) 18 1 (((20 : Nat) : Int)))) : zx l G 0 (d + 1) h_La_init k_La_init 19 Q QX K 300 (k_La_init.drop 0) [(2, 18)] [] v 19 := h
set_option maxRecDepth 100000 in
theorem c_La_init_18 (K : Q 0 (iv_La_init_18 v)) : zC l G 0 (d + 1) h_La_init [(2, 18)] v 19 Q := by
  refine zC_at ok_La_init ck_La_init rfl rfl (sg_La_init_18 ?_)
  repeat (first | refine And.intro (by decide) ?_ | refine And.intro (by unfold zI; decide) ?_ | refine And.intro (show (1 : Int) ≠ -1000 by decide) ?_)
  exact K
def iv_La_init_21 (v : zH) : zH := zupd (zborn (zupd (zborn v 22) 21 0 (((22 : Nat) : Int))) 23) 21 1 (((23 : Nat) : Int))
set_option maxRecDepth 100000 in
theorem sg_La_init_21 {QX : Nat → zH → Prop} {K : Nat → List zV → List zV → zH → Nat → Prop} (h : zCL ((22 : Nat) : Int) = 20 ∧ 22 + 1 ≤ 22 + hMc h_La_init ∧ zSZ (22 + 1) ≤ zSZ 22 + hMs h_La_init ∧ (160 : Int) = zLN ((22 : Nat) : Int) ∧ zCL 21 = 2 ∧ zCL ((23 : Nat) : Int) = 20 ∧ 23 + 1 ≤ 22 + hMc h_La_init ∧ zSZ (23 + 1) ≤ zSZ 22 + hMs h_La_init ∧ (161 : Int) = zLN ((23 : Nat) : Int) ∧ zCL 21 = 2 ∧ 24 = 22 + hMc h_La_init ∧ Q 0 (zupd (zborn (zupd (zborn v 22) 21 0 (((22 : Nat) : Int))) 23) 21 1 (((23 : Nat) : Int)))) : zx l G 0 (d + 1) h_La_init k_La_init 22 Q QX K 300 (k_La_init.drop 0) [(2, 21)] [] v 22 := h
set_option maxRecDepth 100000 in
theorem c_La_init_21 (K : Q 0 (iv_La_init_21 v)) : zC l G 0 (d + 1) h_La_init [(2, 21)] v 22 Q := by
  refine zC_at ok_La_init ck_La_init rfl rfl (sg_La_init_21 ?_)
  repeat (first | refine And.intro (by decide) ?_ | refine And.intro (by unfold zI; decide) ?_ | refine And.intro (show (1 : Int) ≠ -1000 by decide) ?_)
  exact K
set_option maxRecDepth 100000 in
theorem sg_Sk_0 {QX : Nat → zH → Prop} {K : Nat → List zV → List zV → zH → Nat → Prop} (h : zCL ((6 : Nat) : Int) = 23 ∧ 6 + 1 ≤ 6 + hMc h_Sk_init ∧ zSZ (6 + 1) ≤ zSZ 6 + hMs h_Sk_init ∧ (5 : Int) = zLN ((6 : Nat) : Int) ∧ zCL 5 = 5 ∧ zCL ((7 : Nat) : Int) = 20 ∧ 7 + 1 ≤ 6 + hMc h_Sk_init ∧ zSZ (7 + 1) ≤ zSZ 6 + hMs h_Sk_init ∧ (9216 : Int) = zLN ((7 : Nat) : Int) ∧ zCL 5 = 5 ∧ zCL ((8 : Nat) : Int) = 20 ∧ 8 + 1 ≤ 6 + hMc h_Sk_init ∧ zSZ (8 + 1) ≤ zSZ 6 + hMs h_Sk_init ∧ (4 : Int) = zLN ((8 : Nat) : Int) ∧ zCL 5 = 5 ∧ zCL 5 = 5 ∧ K 19 [(2, 5), (0, 0)] [] (zupd (zupd (zborn (zupd (zborn (zupd (zborn v 6) 5 0 (((6 : Nat) : Int))) 7) 5 1 (((7 : Nat) : Int))) 8) 5 2 (((8 : Nat) : Int))) 5 4 ((-1))) 9) : zx l G 0 (d + 1) h_Sk_init k_Sk_init 6 Q QX K 300 (k_Sk_init.drop 0) [(2, 5), (3, 0)] [] v 6 := h
def iv_Sk0 (v : zH) : zH := zupd (zupd (zborn (zupd (zborn (zupd (zborn v 6) 5 0 ((6 : Nat) : Int)) 7) 5 1 ((7 : Nat) : Int)) 8) 5 2 ((8 : Nat) : Int)) 5 4 (-1)
set_option maxRecDepth 100000 in
theorem sg_Sk_19_0 {QX : Nat → zH → Prop} {K : Nat → List zV → List zV → zH → Nat → Prop} (h : zCL 5 = 5 ∧ v 5 0 ≠ -1000 ∧ zCL (v 5 0) = 23 ∧ (((zLN (v 5 0)) ≤ (0 : Int) → 9 = 6 + hMc h_Sk_init ∧ Q 0 v) ∧ ((0 : Int) < (zLN (v 5 0)) → zCL 5 = 5 ∧ v 5 0 ≠ -1000 ∧ zCL ((9 : Nat) : Int) = 2 ∧ 9 + 1 ≤ 6 + hMc h_Sk_init ∧ zSZ (9 + 1) ≤ zSZ 6 + hMs h_Sk_init ∧ (10 + hMc h_La_init ≤ 6 + hMc h_Sk_init ∧ zSZ (10 + hMc h_La_init) ≤ zSZ 6 + hMs h_Sk_init ∧ zSZ (10 + hMc h_La_init) = zSZ 10 + hMs h_La_init) ∧ zC l G 0 d h_La_init [(2, ((9 : Nat) : Int))] (zborn v 9) 10 (fun _ v1 => zCL (v 5 0) = 23 ∧ (0 ≤ (0 : Int) ∧ 0 < zLN (v 5 0)) ∧ zCL (((9 : Nat) : Int)) = 2 ∧ zI ((0 : Int) + 1) ∧ K 19 [(2, 5), (0, (0 : Int) + 1)] [] (zupd v1 (v 5 0) 0 (((9 : Nat) : Int))) 12)))) : zx l G 0 (d + 1) h_Sk_init k_Sk_init 6 Q QX K 300 (k_Sk_init.drop 19) [(2, 5), (0, 0)] [] v 9 := h
def iv_Sk1 (v : zH) : zH := zupd (iv_La_init_9 (zborn (iv_Sk0 v) 9)) (iv_Sk0 v 5 0) (0) ((9 : Nat) : Int)
set_option maxRecDepth 100000 in
theorem sg_Sk_19_1 {QX : Nat → zH → Prop} {K : Nat → List zV → List zV → zH → Nat → Prop} (h : zCL 5 = 5 ∧ v 5 0 ≠ -1000 ∧ zCL (v 5 0) = 23 ∧ (((zLN (v 5 0)) ≤ ((0 : Int) + 1) → 12 = 6 + hMc h_Sk_init ∧ Q 0 v) ∧ (((0 : Int) + 1) < (zLN (v 5 0)) → zCL 5 = 5 ∧ v 5 0 ≠ -1000 ∧ zCL ((12 : Nat) : Int) = 2 ∧ 12 + 1 ≤ 6 + hMc h_Sk_init ∧ zSZ (12 + 1) ≤ zSZ 6 + hMs h_Sk_init ∧ (13 + hMc h_La_init ≤ 6 + hMc h_Sk_init ∧ zSZ (13 + hMc h_La_init) ≤ zSZ 6 + hMs h_Sk_init ∧ zSZ (13 + hMc h_La_init) = zSZ 13 + hMs h_La_init) ∧ zC l G 0 d h_La_init [(2, ((12 : Nat) : Int))] (zborn v 12) 13 (fun _ v1 => zCL (v 5 0) = 23 ∧ (0 ≤ ((0 : Int) + 1) ∧ ((0 : Int) + 1) < zLN (v 5 0)) ∧ zCL (((12 : Nat) : Int)) = 2 ∧ zI (((0 : Int) + 1) + 1) ∧ K 19 [(2, 5), (0, ((0 : Int) + 1) + 1)] [] (zupd v1 (v 5 0) ((0 : Int) + 1) (((12 : Nat) : Int))) 15)))) : zx l G 0 (d + 1) h_Sk_init k_Sk_init 6 Q QX K 300 (k_Sk_init.drop 19) [(2, 5), (0, (0 : Int) + 1)] [] v 12 := h
def iv_Sk2 (v : zH) : zH := zupd (iv_La_init_12 (zborn (iv_Sk1 v) 12)) (iv_Sk1 v 5 0) ((0 : Int) + 1) ((12 : Nat) : Int)
set_option maxRecDepth 100000 in
theorem sg_Sk_19_2 {QX : Nat → zH → Prop} {K : Nat → List zV → List zV → zH → Nat → Prop} (h : zCL 5 = 5 ∧ v 5 0 ≠ -1000 ∧ zCL (v 5 0) = 23 ∧ (((zLN (v 5 0)) ≤ (((0 : Int) + 1) + 1) → 15 = 6 + hMc h_Sk_init ∧ Q 0 v) ∧ ((((0 : Int) + 1) + 1) < (zLN (v 5 0)) → zCL 5 = 5 ∧ v 5 0 ≠ -1000 ∧ zCL ((15 : Nat) : Int) = 2 ∧ 15 + 1 ≤ 6 + hMc h_Sk_init ∧ zSZ (15 + 1) ≤ zSZ 6 + hMs h_Sk_init ∧ (16 + hMc h_La_init ≤ 6 + hMc h_Sk_init ∧ zSZ (16 + hMc h_La_init) ≤ zSZ 6 + hMs h_Sk_init ∧ zSZ (16 + hMc h_La_init) = zSZ 16 + hMs h_La_init) ∧ zC l G 0 d h_La_init [(2, ((15 : Nat) : Int))] (zborn v 15) 16 (fun _ v1 => zCL (v 5 0) = 23 ∧ (0 ≤ (((0 : Int) + 1) + 1) ∧ (((0 : Int) + 1) + 1) < zLN (v 5 0)) ∧ zCL (((15 : Nat) : Int)) = 2 ∧ zI ((((0 : Int) + 1) + 1) + 1) ∧ K 19 [(2, 5), (0, (((0 : Int) + 1) + 1) + 1)] [] (zupd v1 (v 5 0) (((0 : Int) + 1) + 1) (((15 : Nat) : Int))) 18)))) : zx l G 0 (d + 1) h_Sk_init k_Sk_init 6 Q QX K 300 (k_Sk_init.drop 19) [(2, 5), (0, ((0 : Int) + 1) + 1)] [] v 15 := h
def iv_Sk3 (v : zH) : zH := zupd (iv_La_init_15 (zborn (iv_Sk2 v) 15)) (iv_Sk2 v 5 0) (((0 : Int) + 1) + 1) ((15 : Nat) : Int)
set_option maxRecDepth 100000 in
theorem sg_Sk_19_3 {QX : Nat → zH → Prop} {K : Nat → List zV → List zV → zH → Nat → Prop} (h : zCL 5 = 5 ∧ v 5 0 ≠ -1000 ∧ zCL (v 5 0) = 23 ∧ (((zLN (v 5 0)) ≤ ((((0 : Int) + 1) + 1) + 1) → 18 = 6 + hMc h_Sk_init ∧ Q 0 v) ∧ (((((0 : Int) + 1) + 1) + 1) < (zLN (v 5 0)) → zCL 5 = 5 ∧ v 5 0 ≠ -1000 ∧ zCL ((18 : Nat) : Int) = 2 ∧ 18 + 1 ≤ 6 + hMc h_Sk_init ∧ zSZ (18 + 1) ≤ zSZ 6 + hMs h_Sk_init ∧ (19 + hMc h_La_init ≤ 6 + hMc h_Sk_init ∧ zSZ (19 + hMc h_La_init) ≤ zSZ 6 + hMs h_Sk_init ∧ zSZ (19 + hMc h_La_init) = zSZ 19 + hMs h_La_init) ∧ zC l G 0 d h_La_init [(2, ((18 : Nat) : Int))] (zborn v 18) 19 (fun _ v1 => zCL (v 5 0) = 23 ∧ (0 ≤ ((((0 : Int) + 1) + 1) + 1) ∧ ((((0 : Int) + 1) + 1) + 1) < zLN (v 5 0)) ∧ zCL (((18 : Nat) : Int)) = 2 ∧ zI (((((0 : Int) + 1) + 1) + 1) + 1) ∧ K 19 [(2, 5), (0, ((((0 : Int) + 1) + 1) + 1) + 1)] [] (zupd v1 (v 5 0) ((((0 : Int) + 1) + 1) + 1) (((18 : Nat) : Int))) 21)))) : zx l G 0 (d + 1) h_Sk_init k_Sk_init 6 Q QX K 300 (k_Sk_init.drop 19) [(2, 5), (0, (((0 : Int) + 1) + 1) + 1)] [] v 18 := h
def iv_Sk4 (v : zH) : zH := zupd (iv_La_init_18 (zborn (iv_Sk3 v) 18)) (iv_Sk3 v 5 0) ((((0 : Int) + 1) + 1) + 1) ((18 : Nat) : Int)
set_option maxRecDepth 100000 in
theorem sg_Sk_19_4 {QX : Nat → zH → Prop} {K : Nat → List zV → List zV → zH → Nat → Prop} (h : zCL 5 = 5 ∧ v 5 0 ≠ -1000 ∧ zCL (v 5 0) = 23 ∧ (((zLN (v 5 0)) ≤ (((((0 : Int) + 1) + 1) + 1) + 1) → 21 = 6 + hMc h_Sk_init ∧ Q 0 v) ∧ ((((((0 : Int) + 1) + 1) + 1) + 1) < (zLN (v 5 0)) → zCL 5 = 5 ∧ v 5 0 ≠ -1000 ∧ zCL ((21 : Nat) : Int) = 2 ∧ 21 + 1 ≤ 6 + hMc h_Sk_init ∧ zSZ (21 + 1) ≤ zSZ 6 + hMs h_Sk_init ∧ (22 + hMc h_La_init ≤ 6 + hMc h_Sk_init ∧ zSZ (22 + hMc h_La_init) ≤ zSZ 6 + hMs h_Sk_init ∧ zSZ (22 + hMc h_La_init) = zSZ 22 + hMs h_La_init) ∧ zC l G 0 d h_La_init [(2, ((21 : Nat) : Int))] (zborn v 21) 22 (fun _ v1 => zCL (v 5 0) = 23 ∧ (0 ≤ (((((0 : Int) + 1) + 1) + 1) + 1) ∧ (((((0 : Int) + 1) + 1) + 1) + 1) < zLN (v 5 0)) ∧ zCL (((21 : Nat) : Int)) = 2 ∧ zI ((((((0 : Int) + 1) + 1) + 1) + 1) + 1) ∧ K 19 [(2, 5), (0, (((((0 : Int) + 1) + 1) + 1) + 1) + 1)] [] (zupd v1 (v 5 0) (((((0 : Int) + 1) + 1) + 1) + 1) (((21 : Nat) : Int))) 24)))) : zx l G 0 (d + 1) h_Sk_init k_Sk_init 6 Q QX K 300 (k_Sk_init.drop 19) [(2, 5), (0, ((((0 : Int) + 1) + 1) + 1) + 1)] [] v 21 := h
def iv_Sk5 (v : zH) : zH := zupd (iv_La_init_21 (zborn (iv_Sk4 v) 21)) (iv_Sk4 v 5 0) (((((0 : Int) + 1) + 1) + 1) + 1) ((21 : Nat) : Int)
set_option maxRecDepth 100000 in
theorem sg_Sk_19_5 {QX : Nat → zH → Prop} {K : Nat → List zV → List zV → zH → Nat → Prop} (h : zCL 5 = 5 ∧ v 5 0 ≠ -1000 ∧ zCL (v 5 0) = 23 ∧ (((zLN (v 5 0)) ≤ ((((((0 : Int) + 1) + 1) + 1) + 1) + 1) → 24 = 6 + hMc h_Sk_init ∧ Q 0 v) ∧ (((((((0 : Int) + 1) + 1) + 1) + 1) + 1) < (zLN (v 5 0)) → zCL 5 = 5 ∧ v 5 0 ≠ -1000 ∧ zCL ((24 : Nat) : Int) = 2 ∧ 24 + 1 ≤ 6 + hMc h_Sk_init ∧ zSZ (24 + 1) ≤ zSZ 6 + hMs h_Sk_init ∧ (25 + hMc h_La_init ≤ 6 + hMc h_Sk_init ∧ zSZ (25 + hMc h_La_init) ≤ zSZ 6 + hMs h_Sk_init ∧ zSZ (25 + hMc h_La_init) = zSZ 25 + hMs h_La_init) ∧ zC l G 0 d h_La_init [(2, ((24 : Nat) : Int))] (zborn v 24) 25 (fun _ v1 => zCL (v 5 0) = 23 ∧ (0 ≤ ((((((0 : Int) + 1) + 1) + 1) + 1) + 1) ∧ ((((((0 : Int) + 1) + 1) + 1) + 1) + 1) < zLN (v 5 0)) ∧ zCL (((24 : Nat) : Int)) = 2 ∧ zI (((((((0 : Int) + 1) + 1) + 1) + 1) + 1) + 1) ∧ K 19 [(2, 5), (0, ((((((0 : Int) + 1) + 1) + 1) + 1) + 1) + 1)] [] (zupd v1 (v 5 0) ((((((0 : Int) + 1) + 1) + 1) + 1) + 1) (((24 : Nat) : Int))) 27)))) : zx l G 0 (d + 1) h_Sk_init k_Sk_init 6 Q QX K 300 (k_Sk_init.drop 19) [(2, 5), (0, (((((0 : Int) + 1) + 1) + 1) + 1) + 1)] [] v 24 := h
set_option maxRecDepth 100000 in
theorem c_Sk_init_5 (K : Q 0 (iv_Sk5 v)) : zC l G 0 (d + 2) h_Sk_init [(2, 5)] v 6 Q := by
  refine zC_at ok_Sk_init ck_Sk_init rfl rfl (sg_Sk_0 ?_)
  repeat (refine And.intro (by decide) ?_)
  refine zgo ck_Sk_init 300 19 _ _ _ _ rfl (sg_Sk_19_0 ?_)
  refine ⟨by decide, show (6 : Int) ≠ -1000 by decide, show zCL 6 = 23 by decide, fun q => absurd (show zLN 6 ≤ (0 : Int) from q) (by decide), fun _ => ?_⟩
  refine ⟨by decide, show (6 : Int) ≠ -1000 by decide, by decide, by decide, by decide, by decide, ?_⟩
  refine c_La_init_9 ?_
  refine ⟨show zCL 6 = 23 by decide, show (0 : Int) ≤ 0 ∧ (0 : Int) < zLN 6 by decide, by decide, by unfold zI; decide, ?_⟩
  refine zgo ck_Sk_init 300 19 _ _ _ _ rfl (sg_Sk_19_1 ?_)
  refine ⟨by decide, show (6 : Int) ≠ -1000 by decide, show zCL 6 = 23 by decide, fun q => absurd (show zLN 6 ≤ (1 : Int) from q) (by decide), fun _ => ?_⟩
  refine ⟨by decide, show (6 : Int) ≠ -1000 by decide, by decide, by decide, by decide, by decide, ?_⟩
  refine c_La_init_12 ?_
  refine ⟨show zCL 6 = 23 by decide, show (0 : Int) ≤ 1 ∧ (1 : Int) < zLN 6 by decide, by decide, by unfold zI; decide, ?_⟩
  refine zgo ck_Sk_init 300 19 _ _ _ _ rfl (sg_Sk_19_2 ?_)
  refine ⟨by decide, show (6 : Int) ≠ -1000 by decide, show zCL 6 = 23 by decide, fun q => absurd (show zLN 6 ≤ (2 : Int) from q) (by decide), fun _ => ?_⟩
  refine ⟨by decide, show (6 : Int) ≠ -1000 by decide, by decide, by decide, by decide, by decide, ?_⟩
  refine c_La_init_15 ?_
  refine ⟨show zCL 6 = 23 by decide, show (0 : Int) ≤ 2 ∧ (2 : Int) < zLN 6 by decide, by decide, by unfold zI; decide, ?_⟩
  refine zgo ck_Sk_init 300 19 _ _ _ _ rfl (sg_Sk_19_3 ?_)
  refine ⟨by decide, show (6 : Int) ≠ -1000 by decide, show zCL 6 = 23 by decide, fun q => absurd (show zLN 6 ≤ (3 : Int) from q) (by decide), fun _ => ?_⟩
  refine ⟨by decide, show (6 : Int) ≠ -1000 by decide, by decide, by decide, by decide, by decide, ?_⟩
  refine c_La_init_18 ?_
  refine ⟨show zCL 6 = 23 by decide, show (0 : Int) ≤ 3 ∧ (3 : Int) < zLN 6 by decide, by decide, by unfold zI; decide, ?_⟩
  refine zgo ck_Sk_init 300 19 _ _ _ _ rfl (sg_Sk_19_4 ?_)
  refine ⟨by decide, show (6 : Int) ≠ -1000 by decide, show zCL 6 = 23 by decide, fun q => absurd (show zLN 6 ≤ (4 : Int) from q) (by decide), fun _ => ?_⟩
  refine ⟨by decide, show (6 : Int) ≠ -1000 by decide, by decide, by decide, by decide, by decide, ?_⟩
  refine c_La_init_21 ?_
  refine ⟨show zCL 6 = 23 by decide, show (0 : Int) ≤ 4 ∧ (4 : Int) < zLN 6 by decide, by decide, by unfold zI; decide, ?_⟩
  refine zgo ck_Sk_init 300 19 _ _ _ _ rfl (sg_Sk_19_5 ?_)
  refine ⟨by decide, show (6 : Int) ≠ -1000 by decide, show zCL 6 = 23 by decide, fun _ => ⟨by decide, K⟩, fun q => absurd (show (5 : Int) < zLN 6 from q) (by decide)⟩
def iv_Sk_init_5 (v : zH) : zH := iv_Sk5 v
def iv_Co_init_24 (v : zH) : zH := zupd (zborn (zupd (zborn (zupd (zborn (zupd (zborn (zupd (zborn (zupd (zborn (zupd (zborn (zupd (zborn v 25) 24 0 (((25 : Nat) : Int))) 26) 24 1 (((26 : Nat) : Int))) 27) 24 2 (((27 : Nat) : Int))) 28) 24 3 (((28 : Nat) : Int))) 29) 24 4 (((29 : Nat) : Int))) 30) 24 5 (((30 : Nat) : Int))) 31) 24 6 (((31 : Nat) : Int))) 32) 24 7 (((32 : Nat) : Int))
set_option maxRecDepth 100000 in
theorem sg_Co_init_24 {QX : Nat → zH → Prop} {K : Nat → List zV → List zV → zH → Nat → Prop} (h : zCL ((25 : Nat) : Int) = 20 ∧ 25 + 1 ≤ 25 + hMc h_Co_init ∧ zSZ (25 + 1) ≤ zSZ 25 + hMs h_Co_init ∧ (24 : Int) = zLN ((25 : Nat) : Int) ∧ zCL 24 = 0 ∧ zCL ((26 : Nat) : Int) = 20 ∧ 26 + 1 ≤ 25 + hMc h_Co_init ∧ zSZ (26 + 1) ≤ zSZ 25 + hMs h_Co_init ∧ (24 : Int) = zLN ((26 : Nat) : Int) ∧ zCL 24 = 0 ∧ zCL ((27 : Nat) : Int) = 20 ∧ 27 + 1 ≤ 25 + hMc h_Co_init ∧ zSZ (27 + 1) ≤ zSZ 25 + hMs h_Co_init ∧ (24 : Int) = zLN ((27 : Nat) : Int) ∧ zCL 24 = 0 ∧ zCL ((28 : Nat) : Int) = 20 ∧ 28 + 1 ≤ 25 + hMc h_Co_init ∧ zSZ (28 + 1) ≤ zSZ 25 + hMs h_Co_init ∧ (3 : Int) = zLN ((28 : Nat) : Int) ∧ zCL 24 = 0 ∧ zCL ((29 : Nat) : Int) = 20 ∧ 29 + 1 ≤ 25 + hMc h_Co_init ∧ zSZ (29 + 1) ≤ zSZ 25 + hMs h_Co_init ∧ (3 : Int) = zLN ((29 : Nat) : Int) ∧ zCL 24 = 0 ∧ zCL ((30 : Nat) : Int) = 20 ∧ 30 + 1 ≤ 25 + hMc h_Co_init ∧ zSZ (30 + 1) ≤ zSZ 25 + hMs h_Co_init ∧ (24 : Int) = zLN ((30 : Nat) : Int) ∧ zCL 24 = 0 ∧ zCL ((31 : Nat) : Int) = 20 ∧ 31 + 1 ≤ 25 + hMc h_Co_init ∧ zSZ (31 + 1) ≤ zSZ 25 + hMs h_Co_init ∧ (24 : Int) = zLN ((31 : Nat) : Int) ∧ zCL 24 = 0 ∧ zCL ((32 : Nat) : Int) = 20 ∧ 32 + 1 ≤ 25 + hMc h_Co_init ∧ zSZ (32 + 1) ≤ zSZ 25 + hMs h_Co_init ∧ (24 : Int) = zLN ((32 : Nat) : Int) ∧ zCL 24 = 0 ∧ 33 = 25 + hMc h_Co_init ∧ Q 0 (zupd (zborn (zupd (zborn (zupd (zborn (zupd (zborn (zupd (zborn (zupd (zborn (zupd (zborn (zupd (zborn v 25) 24 0 (((25 : Nat) : Int))) 26) 24 1 (((26 : Nat) : Int))) 27) 24 2 (((27 : Nat) : Int))) 28) 24 3 (((28 : Nat) : Int))) 29) 24 4 (((29 : Nat) : Int))) 30) 24 5 (((30 : Nat) : Int))) 31) 24 6 (((31 : Nat) : Int))) 32) 24 7 (((32 : Nat) : Int)))) : zx l G 0 (d + 1) h_Co_init k_Co_init 25 Q QX K 300 (k_Co_init.drop 0) [(2, 24)] [] v 25 := h
set_option maxRecDepth 100000 in
theorem c_Co_init_24 (K : Q 0 (iv_Co_init_24 v)) : zC l G 0 (d + 1) h_Co_init [(2, 24)] v 25 Q := by
  refine zC_at ok_Co_init ck_Co_init rfl rfl (sg_Co_init_24 ?_)
  repeat (first | refine And.intro (by decide) ?_ | refine And.intro (by unfold zI; decide) ?_ | refine And.intro (show (1 : Int) ≠ -1000 by decide) ?_)
  exact K
def iv_Co_init_33 (v : zH) : zH := zupd (zborn (zupd (zborn (zupd (zborn (zupd (zborn (zupd (zborn (zupd (zborn (zupd (zborn (zupd (zborn v 34) 33 0 (((34 : Nat) : Int))) 35) 33 1 (((35 : Nat) : Int))) 36) 33 2 (((36 : Nat) : Int))) 37) 33 3 (((37 : Nat) : Int))) 38) 33 4 (((38 : Nat) : Int))) 39) 33 5 (((39 : Nat) : Int))) 40) 33 6 (((40 : Nat) : Int))) 41) 33 7 (((41 : Nat) : Int))
set_option maxRecDepth 100000 in
theorem sg_Co_init_33 {QX : Nat → zH → Prop} {K : Nat → List zV → List zV → zH → Nat → Prop} (h : zCL ((34 : Nat) : Int) = 20 ∧ 34 + 1 ≤ 34 + hMc h_Co_init ∧ zSZ (34 + 1) ≤ zSZ 34 + hMs h_Co_init ∧ (24 : Int) = zLN ((34 : Nat) : Int) ∧ zCL 33 = 0 ∧ zCL ((35 : Nat) : Int) = 20 ∧ 35 + 1 ≤ 34 + hMc h_Co_init ∧ zSZ (35 + 1) ≤ zSZ 34 + hMs h_Co_init ∧ (24 : Int) = zLN ((35 : Nat) : Int) ∧ zCL 33 = 0 ∧ zCL ((36 : Nat) : Int) = 20 ∧ 36 + 1 ≤ 34 + hMc h_Co_init ∧ zSZ (36 + 1) ≤ zSZ 34 + hMs h_Co_init ∧ (24 : Int) = zLN ((36 : Nat) : Int) ∧ zCL 33 = 0 ∧ zCL ((37 : Nat) : Int) = 20 ∧ 37 + 1 ≤ 34 + hMc h_Co_init ∧ zSZ (37 + 1) ≤ zSZ 34 + hMs h_Co_init ∧ (3 : Int) = zLN ((37 : Nat) : Int) ∧ zCL 33 = 0 ∧ zCL ((38 : Nat) : Int) = 20 ∧ 38 + 1 ≤ 34 + hMc h_Co_init ∧ zSZ (38 + 1) ≤ zSZ 34 + hMs h_Co_init ∧ (3 : Int) = zLN ((38 : Nat) : Int) ∧ zCL 33 = 0 ∧ zCL ((39 : Nat) : Int) = 20 ∧ 39 + 1 ≤ 34 + hMc h_Co_init ∧ zSZ (39 + 1) ≤ zSZ 34 + hMs h_Co_init ∧ (24 : Int) = zLN ((39 : Nat) : Int) ∧ zCL 33 = 0 ∧ zCL ((40 : Nat) : Int) = 20 ∧ 40 + 1 ≤ 34 + hMc h_Co_init ∧ zSZ (40 + 1) ≤ zSZ 34 + hMs h_Co_init ∧ (24 : Int) = zLN ((40 : Nat) : Int) ∧ zCL 33 = 0 ∧ zCL ((41 : Nat) : Int) = 20 ∧ 41 + 1 ≤ 34 + hMc h_Co_init ∧ zSZ (41 + 1) ≤ zSZ 34 + hMs h_Co_init ∧ (24 : Int) = zLN ((41 : Nat) : Int) ∧ zCL 33 = 0 ∧ 42 = 34 + hMc h_Co_init ∧ Q 0 (zupd (zborn (zupd (zborn (zupd (zborn (zupd (zborn (zupd (zborn (zupd (zborn (zupd (zborn (zupd (zborn v 34) 33 0 (((34 : Nat) : Int))) 35) 33 1 (((35 : Nat) : Int))) 36) 33 2 (((36 : Nat) : Int))) 37) 33 3 (((37 : Nat) : Int))) 38) 33 4 (((38 : Nat) : Int))) 39) 33 5 (((39 : Nat) : Int))) 40) 33 6 (((40 : Nat) : Int))) 41) 33 7 (((41 : Nat) : Int)))) : zx l G 0 (d + 1) h_Co_init k_Co_init 34 Q QX K 300 (k_Co_init.drop 0) [(2, 33)] [] v 34 := h
set_option maxRecDepth 100000 in
theorem c_Co_init_33 (K : Q 0 (iv_Co_init_33 v)) : zC l G 0 (d + 1) h_Co_init [(2, 33)] v 34 Q := by
  refine zC_at ok_Co_init ck_Co_init rfl rfl (sg_Co_init_33 ?_)
  repeat (first | refine And.intro (by decide) ?_ | refine And.intro (by unfold zI; decide) ?_ | refine And.intro (show (1 : Int) ≠ -1000 by decide) ?_)
  exact K
def iv_Pa_init_42 (v : zH) : zH := zupd (zborn (zupd (zborn v 43) 42 0 (((43 : Nat) : Int))) 44) 42 1 (((44 : Nat) : Int))
set_option maxRecDepth 100000 in
theorem sg_Pa_init_42 {QX : Nat → zH → Prop} {K : Nat → List zV → List zV → zH → Nat → Prop} (h : zCL ((43 : Nat) : Int) = 20 ∧ 43 + 1 ≤ 43 + hMc h_Pa_init ∧ zSZ (43 + 1) ≤ zSZ 43 + hMs h_Pa_init ∧ (1440 : Int) = zLN ((43 : Nat) : Int) ∧ zCL 42 = 4 ∧ zCL ((44 : Nat) : Int) = 20 ∧ 44 + 1 ≤ 43 + hMc h_Pa_init ∧ zSZ (44 + 1) ≤ zSZ 43 + hMs h_Pa_init ∧ (24 : Int) = zLN ((44 : Nat) : Int) ∧ zCL 42 = 4 ∧ 45 = 43 + hMc h_Pa_init ∧ Q 0 (zupd (zborn (zupd (zborn v 43) 42 0 (((43 : Nat) : Int))) 44) 42 1 (((44 : Nat) : Int)))) : zx l G 0 (d + 1) h_Pa_init k_Pa_init 43 Q QX K 300 (k_Pa_init.drop 0) [(2, 42)] [] v 43 := h
set_option maxRecDepth 100000 in
theorem c_Pa_init_42 (K : Q 0 (iv_Pa_init_42 v)) : zC l G 0 (d + 1) h_Pa_init [(2, 42)] v 43 Q := by
  refine zC_at ok_Pa_init ck_Pa_init rfl rfl (sg_Pa_init_42 ?_)
  repeat (first | refine And.intro (by decide) ?_ | refine And.intro (by unfold zI; decide) ?_ | refine And.intro (show (1 : Int) ≠ -1000 by decide) ?_)
  exact K
def iv_To_init_45 (v : zH) : zH := zupd (zborn (zupd (zborn (zupd (zborn v 46) 45 0 (((46 : Nat) : Int))) 47) 45 1 (((47 : Nat) : Int))) 48) 45 2 (((48 : Nat) : Int))
set_option maxRecDepth 100000 in
theorem sg_To_init_45 {QX : Nat → zH → Prop} {K : Nat → List zV → List zV → zH → Nat → Prop} (h : zCL ((46 : Nat) : Int) = 20 ∧ 46 + 1 ≤ 46 + hMc h_To_init ∧ zSZ (46 + 1) ≤ zSZ 46 + hMs h_To_init ∧ (20 : Int) = zLN ((46 : Nat) : Int) ∧ zCL 45 = 7 ∧ zCL ((47 : Nat) : Int) = 20 ∧ 47 + 1 ≤ 46 + hMc h_To_init ∧ zSZ (47 + 1) ≤ zSZ 46 + hMs h_To_init ∧ (20 : Int) = zLN ((47 : Nat) : Int) ∧ zCL 45 = 7 ∧ zCL ((48 : Nat) : Int) = 20 ∧ 48 + 1 ≤ 46 + hMc h_To_init ∧ zSZ (48 + 1) ≤ zSZ 46 + hMs h_To_init ∧ (20 : Int) = zLN ((48 : Nat) : Int) ∧ zCL 45 = 7 ∧ 49 = 46 + hMc h_To_init ∧ Q 0 (zupd (zborn (zupd (zborn (zupd (zborn v 46) 45 0 (((46 : Nat) : Int))) 47) 45 1 (((47 : Nat) : Int))) 48) 45 2 (((48 : Nat) : Int)))) : zx l G 0 (d + 1) h_To_init k_To_init 46 Q QX K 300 (k_To_init.drop 0) [(2, 45)] [] v 46 := h
set_option maxRecDepth 100000 in
theorem c_To_init_45 (K : Q 0 (iv_To_init_45 v)) : zC l G 0 (d + 1) h_To_init [(2, 45)] v 46 Q := by
  refine zC_at ok_To_init ck_To_init rfl rfl (sg_To_init_45 ?_)
  repeat (first | refine And.intro (by decide) ?_ | refine And.intro (by unfold zI; decide) ?_ | refine And.intro (show (1 : Int) ≠ -1000 by decide) ?_)
  exact K
def iv_Ki_init_0_52 (v : zH) : zH := zupd (zborn (zupd (zupd (zupd (zupd (zupd v 52 0 4) 52 1 ((-11))) 52 2 ((-2))) 52 3 ((-3))) 52 4 ((-4))) 53) 52 5 (((53 : Nat) : Int))
set_option maxRecDepth 100000 in
theorem sg_Ki_init_0_52 {QX : Nat → zH → Prop} {K : Nat → List zV → List zV → zH → Nat → Prop} (h : zCL 52 = 1 ∧ zCL 52 = 1 ∧ zCL 52 = 1 ∧ zCL 52 = 1 ∧ zCL 52 = 1 ∧ zCL ((-4)) = 25 ∧ zI ((4 : Int) * (zLN ((-4)))) ∧ zCL ((53 : Nat) : Int) = 20 ∧ 53 + 1 ≤ 53 + hMc h_Ki_init_0 ∧ zSZ (53 + 1) ≤ zSZ 53 + hMs h_Ki_init_0 ∧ ((4 : Int) * (zLN ((-4)))) = zLN ((53 : Nat) : Int) ∧ zCL 52 = 1 ∧ 54 = 53 + hMc h_Ki_init_0 ∧ Q 0 (zupd (zborn (zupd (zupd (zupd (zupd (zupd v 52 0 4) 52 1 ((-11))) 52 2 ((-2))) 52 3 ((-3))) 52 4 ((-4))) 53) 52 5 (((53 : Nat) : Int)))) : zx l G 0 (d + 1) h_Ki_init_0 k_Ki_init_0 53 Q QX K 300 (k_Ki_init_0.drop 0) [(2, 52), (0, 4), (2, (-11)), (2, (-2)), (2, (-3)), (2, (-4))] [] v 53 := h
set_option maxRecDepth 100000 in
theorem c_Ki_init_0_52 (K : Q 0 (iv_Ki_init_0_52 v)) : zC l G 0 (d + 1) h_Ki_init_0 [(2, 52), (0, 4), (2, (-11)), (2, (-2)), (2, (-3)), (2, (-4))] v 53 Q := by
  refine zC_at ok_Ki_init_0 ck_Ki_init_0 rfl rfl (sg_Ki_init_0_52 ?_)
  repeat (first | refine And.intro (by decide) ?_ | refine And.intro (by unfold zI; decide) ?_ | refine And.intro (show (1 : Int) ≠ -1000 by decide) ?_)
  exact K
def iv_Ki_init_1_54 (v : zH) : zH := zupd (zborn (zupd (zupd (zupd (zupd (zupd v 54 0 3) 54 1 ((-12))) 54 2 ((-5))) 54 3 ((-6))) 54 4 ((-7))) 55) 54 5 (((55 : Nat) : Int))
set_option maxRecDepth 100000 in
theorem sg_Ki_init_1_54 {QX : Nat → zH → Prop} {K : Nat → List zV → List zV → zH → Nat → Prop} (h : zCL 54 = 1 ∧ zCL 54 = 1 ∧ zCL 54 = 1 ∧ zCL 54 = 1 ∧ zCL 54 = 1 ∧ zCL ((-7)) = 25 ∧ zI ((3 : Int) * (zLN ((-7)))) ∧ zCL ((55 : Nat) : Int) = 20 ∧ 55 + 1 ≤ 55 + hMc h_Ki_init_1 ∧ zSZ (55 + 1) ≤ zSZ 55 + hMs h_Ki_init_1 ∧ ((3 : Int) * (zLN ((-7)))) = zLN ((55 : Nat) : Int) ∧ zCL 54 = 1 ∧ 56 = 55 + hMc h_Ki_init_1 ∧ Q 0 (zupd (zborn (zupd (zupd (zupd (zupd (zupd v 54 0 3) 54 1 ((-12))) 54 2 ((-5))) 54 3 ((-6))) 54 4 ((-7))) 55) 54 5 (((55 : Nat) : Int)))) : zx l G 0 (d + 1) h_Ki_init_1 k_Ki_init_1 55 Q QX K 300 (k_Ki_init_1.drop 0) [(2, 54), (0, 3), (2, (-12)), (2, (-5)), (2, (-6)), (2, (-7))] [] v 55 := h
set_option maxRecDepth 100000 in
theorem c_Ki_init_1_54 (K : Q 0 (iv_Ki_init_1_54 v)) : zC l G 0 (d + 1) h_Ki_init_1 [(2, 54), (0, 3), (2, (-12)), (2, (-5)), (2, (-6)), (2, (-7))] v 55 Q := by
  refine zC_at ok_Ki_init_1 ck_Ki_init_1 rfl rfl (sg_Ki_init_1_54 ?_)
  repeat (first | refine And.intro (by decide) ?_ | refine And.intro (by unfold zI; decide) ?_ | refine And.intro (show (1 : Int) ≠ -1000 by decide) ?_)
  exact K
def iv_Ki_init_2_56 (v : zH) : zH := zupd (zborn (zupd (zupd (zupd (zupd (zupd v 56 0 5) 56 1 ((-13))) 56 2 ((-8))) 56 3 ((-9))) 56 4 ((-10))) 57) 56 5 (((57 : Nat) : Int))
set_option maxRecDepth 100000 in
theorem sg_Ki_init_2_56 {QX : Nat → zH → Prop} {K : Nat → List zV → List zV → zH → Nat → Prop} (h : zCL 56 = 1 ∧ zCL 56 = 1 ∧ zCL 56 = 1 ∧ zCL 56 = 1 ∧ zCL 56 = 1 ∧ zCL ((-10)) = 25 ∧ zI ((5 : Int) * (zLN ((-10)))) ∧ zCL ((57 : Nat) : Int) = 20 ∧ 57 + 1 ≤ 57 + hMc h_Ki_init_2 ∧ zSZ (57 + 1) ≤ zSZ 57 + hMs h_Ki_init_2 ∧ ((5 : Int) * (zLN ((-10)))) = zLN ((57 : Nat) : Int) ∧ zCL 56 = 1 ∧ 58 = 57 + hMc h_Ki_init_2 ∧ Q 0 (zupd (zborn (zupd (zupd (zupd (zupd (zupd v 56 0 5) 56 1 ((-13))) 56 2 ((-8))) 56 3 ((-9))) 56 4 ((-10))) 57) 56 5 (((57 : Nat) : Int)))) : zx l G 0 (d + 1) h_Ki_init_2 k_Ki_init_2 57 Q QX K 300 (k_Ki_init_2.drop 0) [(2, 56), (0, 5), (2, (-13)), (2, (-8)), (2, (-9)), (2, (-10))] [] v 57 := h
set_option maxRecDepth 100000 in
theorem c_Ki_init_2_56 (K : Q 0 (iv_Ki_init_2_56 v)) : zC l G 0 (d + 1) h_Ki_init_2 [(2, 56), (0, 5), (2, (-13)), (2, (-8)), (2, (-9)), (2, (-10))] v 57 Q := by
  refine zC_at ok_Ki_init_2 ck_Ki_init_2 rfl rfl (sg_Ki_init_2_56 ?_)
  repeat (first | refine And.intro (by decide) ?_ | refine And.intro (by unfold zI; decide) ?_ | refine And.intro (show (1 : Int) ≠ -1000 by decide) ?_)
  exact K
def iv_Wa_init_51 (v : zH) : zH := zupd (zborn (zupd (zborn (zupd (zborn (zupd (zborn (zupd (zborn (zupd (zborn (zupd (iv_Ki_init_2_56 (zborn (zupd (iv_Ki_init_1_54 (zborn (zupd (iv_Ki_init_0_52 (zborn v 52)) 51 0 (((52 : Nat) : Int))) 54)) 51 1 (((54 : Nat) : Int))) 56)) 51 2 (((56 : Nat) : Int))) 58) 51 3 (((58 : Nat) : Int))) 59) 51 4 (((59 : Nat) : Int))) 60) 51 5 (((60 : Nat) : Int))) 61) 51 6 (((61 : Nat) : Int))) 62) 51 7 (((62 : Nat) : Int))) 63) 51 8 (((63 : Nat) : Int))
set_option maxRecDepth 100000 in
theorem sg_Wa_init_51 {QX : Nat → zH → Prop} {K : Nat → List zV → List zV → zH → Nat → Prop} (h : zCL ((52 : Nat) : Int) = 1 ∧ 52 + 1 ≤ 52 + hMc h_Wa_init ∧ zSZ (52 + 1) ≤ zSZ 52 + hMs h_Wa_init ∧ (53 + hMc h_Ki_init_0 ≤ 52 + hMc h_Wa_init ∧ zSZ (53 + hMc h_Ki_init_0) ≤ zSZ 52 + hMs h_Wa_init ∧ zSZ (53 + hMc h_Ki_init_0) = zSZ 53 + hMs h_Ki_init_0) ∧ zC l G 0 d h_Ki_init_0 [(2, ((52 : Nat) : Int)), (0, 4), (2, (-11)), (2, (-2)), (2, (-3)), (2, (-4))] (zborn v 52) 53 (fun _ v1 => zCL 51 = 8 ∧ zCL ((54 : Nat) : Int) = 1 ∧ 54 + 1 ≤ 52 + hMc h_Wa_init ∧ zSZ (54 + 1) ≤ zSZ 52 + hMs h_Wa_init ∧ (55 + hMc h_Ki_init_1 ≤ 52 + hMc h_Wa_init ∧ zSZ (55 + hMc h_Ki_init_1) ≤ zSZ 52 + hMs h_Wa_init ∧ zSZ (55 + hMc h_Ki_init_1) = zSZ 55 + hMs h_Ki_init_1) ∧ zC l G 0 d h_Ki_init_1 [(2, ((54 : Nat) : Int)), (0, 3), (2, (-12)), (2, (-5)), (2, (-6)), (2, (-7))] (zborn (zupd v1 51 0 (((52 : Nat) : Int))) 54) 55 (fun _ v2 => zCL 51 = 8 ∧ zCL ((56 : Nat) : Int) = 1 ∧ 56 + 1 ≤ 52 + hMc h_Wa_init ∧ zSZ (56 + 1) ≤ zSZ 52 + hMs h_Wa_init ∧ (57 + hMc h_Ki_init_2 ≤ 52 + hMc h_Wa_init ∧ zSZ (57 + hMc h_Ki_init_2) ≤ zSZ 52 + hMs h_Wa_init ∧ zSZ (57 + hMc h_Ki_init_2) = zSZ 57 + hMs h_Ki_init_2) ∧ zC l G 0 d h_Ki_init_2 [(2, ((56 : Nat) : Int)), (0, 5), (2, (-13)), (2, (-8)), (2, (-9)), (2, (-10))] (zborn (zupd v2 51 1 (((54 : Nat) : Int))) 56) 57 (fun _ v3 => zCL 51 = 8 ∧ zCL ((58 : Nat) : Int) = 20 ∧ 58 + 1 ≤ 52 + hMc h_Wa_init ∧ zSZ (58 + 1) ≤ zSZ 52 + hMs h_Wa_init ∧ (24 : Int) = zLN ((58 : Nat) : Int) ∧ zCL 51 = 8 ∧ zCL ((59 : Nat) : Int) = 20 ∧ 59 + 1 ≤ 52 + hMc h_Wa_init ∧ zSZ (59 + 1) ≤ zSZ 52 + hMs h_Wa_init ∧ (4 : Int) = zLN ((59 : Nat) : Int) ∧ zCL 51 = 8 ∧ zCL ((60 : Nat) : Int) = 20 ∧ 60 + 1 ≤ 52 + hMc h_Wa_init ∧ zSZ (60 + 1) ≤ zSZ 52 + hMs h_Wa_init ∧ (24 : Int) = zLN ((60 : Nat) : Int) ∧ zCL 51 = 8 ∧ zCL ((61 : Nat) : Int) = 20 ∧ 61 + 1 ≤ 52 + hMc h_Wa_init ∧ zSZ (61 + 1) ≤ zSZ 52 + hMs h_Wa_init ∧ (24 : Int) = zLN ((61 : Nat) : Int) ∧ zCL 51 = 8 ∧ zCL ((62 : Nat) : Int) = 20 ∧ 62 + 1 ≤ 52 + hMc h_Wa_init ∧ zSZ (62 + 1) ≤ zSZ 52 + hMs h_Wa_init ∧ (24 : Int) = zLN ((62 : Nat) : Int) ∧ zCL 51 = 8 ∧ zCL ((63 : Nat) : Int) = 20 ∧ 63 + 1 ≤ 52 + hMc h_Wa_init ∧ zSZ (63 + 1) ≤ zSZ 52 + hMs h_Wa_init ∧ (96 : Int) = zLN ((63 : Nat) : Int) ∧ zCL 51 = 8 ∧ 64 = 52 + hMc h_Wa_init ∧ Q 0 (zupd (zborn (zupd (zborn (zupd (zborn (zupd (zborn (zupd (zborn (zupd (zborn (zupd v3 51 2 (((56 : Nat) : Int))) 58) 51 3 (((58 : Nat) : Int))) 59) 51 4 (((59 : Nat) : Int))) 60) 51 5 (((60 : Nat) : Int))) 61) 51 6 (((61 : Nat) : Int))) 62) 51 7 (((62 : Nat) : Int))) 63) 51 8 (((63 : Nat) : Int))))))) : zx l G 0 (d + 1) h_Wa_init k_Wa_init 52 Q QX K 300 (k_Wa_init.drop 0) [(2, 51)] [] v 52 := h
set_option maxRecDepth 100000 in
theorem c_Wa_init_51 (K : Q 0 (iv_Wa_init_51 v)) : zC l G 0 (d + 2) h_Wa_init [(2, 51)] v 52 Q := by
  refine zC_at ok_Wa_init ck_Wa_init rfl rfl (sg_Wa_init_51 ?_)
  repeat (first | refine And.intro (by decide) ?_ | refine And.intro (by unfold zI; decide) ?_ | refine And.intro (show (1 : Int) ≠ -1000 by decide) ?_)
  refine c_Ki_init_0_52 ?_
  repeat (first | refine And.intro (by decide) ?_ | refine And.intro (by unfold zI; decide) ?_ | refine And.intro (show (1 : Int) ≠ -1000 by decide) ?_)
  refine c_Ki_init_1_54 ?_
  repeat (first | refine And.intro (by decide) ?_ | refine And.intro (by unfold zI; decide) ?_ | refine And.intro (show (1 : Int) ≠ -1000 by decide) ?_)
  refine c_Ki_init_2_56 ?_
  repeat (first | refine And.intro (by decide) ?_ | refine And.intro (by unfold zI; decide) ?_ | refine And.intro (show (1 : Int) ≠ -1000 by decide) ?_)
  exact K
def iv_Ki_init_0_65 (v : zH) : zH := zupd (zborn (zupd (zupd (zupd (zupd (zupd v 65 0 4) 65 1 ((-11))) 65 2 ((-2))) 65 3 ((-3))) 65 4 ((-4))) 66) 65 5 (((66 : Nat) : Int))
set_option maxRecDepth 100000 in
theorem sg_Ki_init_0_65 {QX : Nat → zH → Prop} {K : Nat → List zV → List zV → zH → Nat → Prop} (h : zCL 65 = 1 ∧ zCL 65 = 1 ∧ zCL 65 = 1 ∧ zCL 65 = 1 ∧ zCL 65 = 1 ∧ zCL ((-4)) = 25 ∧ zI ((4 : Int) * (zLN ((-4)))) ∧ zCL ((66 : Nat) : Int) = 20 ∧ 66 + 1 ≤ 66 + hMc h_Ki_init_0 ∧ zSZ (66 + 1) ≤ zSZ 66 + hMs h_Ki_init_0 ∧ ((4 : Int) * (zLN ((-4)))) = zLN ((66 : Nat) : Int) ∧ zCL 65 = 1 ∧ 67 = 66 + hMc h_Ki_init_0 ∧ Q 0 (zupd (zborn (zupd (zupd (zupd (zupd (zupd v 65 0 4) 65 1 ((-11))) 65 2 ((-2))) 65 3 ((-3))) 65 4 ((-4))) 66) 65 5 (((66 : Nat) : Int)))) : zx l G 0 (d + 1) h_Ki_init_0 k_Ki_init_0 66 Q QX K 300 (k_Ki_init_0.drop 0) [(2, 65), (0, 4), (2, (-11)), (2, (-2)), (2, (-3)), (2, (-4))] [] v 66 := h
set_option maxRecDepth 100000 in
theorem c_Ki_init_0_65 (K : Q 0 (iv_Ki_init_0_65 v)) : zC l G 0 (d + 1) h_Ki_init_0 [(2, 65), (0, 4), (2, (-11)), (2, (-2)), (2, (-3)), (2, (-4))] v 66 Q := by
  refine zC_at ok_Ki_init_0 ck_Ki_init_0 rfl rfl (sg_Ki_init_0_65 ?_)
  repeat (first | refine And.intro (by decide) ?_ | refine And.intro (by unfold zI; decide) ?_ | refine And.intro (show (1 : Int) ≠ -1000 by decide) ?_)
  exact K
def iv_Ki_init_1_67 (v : zH) : zH := zupd (zborn (zupd (zupd (zupd (zupd (zupd v 67 0 3) 67 1 ((-12))) 67 2 ((-5))) 67 3 ((-6))) 67 4 ((-7))) 68) 67 5 (((68 : Nat) : Int))
set_option maxRecDepth 100000 in
theorem sg_Ki_init_1_67 {QX : Nat → zH → Prop} {K : Nat → List zV → List zV → zH → Nat → Prop} (h : zCL 67 = 1 ∧ zCL 67 = 1 ∧ zCL 67 = 1 ∧ zCL 67 = 1 ∧ zCL 67 = 1 ∧ zCL ((-7)) = 25 ∧ zI ((3 : Int) * (zLN ((-7)))) ∧ zCL ((68 : Nat) : Int) = 20 ∧ 68 + 1 ≤ 68 + hMc h_Ki_init_1 ∧ zSZ (68 + 1) ≤ zSZ 68 + hMs h_Ki_init_1 ∧ ((3 : Int) * (zLN ((-7)))) = zLN ((68 : Nat) : Int) ∧ zCL 67 = 1 ∧ 69 = 68 + hMc h_Ki_init_1 ∧ Q 0 (zupd (zborn (zupd (zupd (zupd (zupd (zupd v 67 0 3) 67 1 ((-12))) 67 2 ((-5))) 67 3 ((-6))) 67 4 ((-7))) 68) 67 5 (((68 : Nat) : Int)))) : zx l G 0 (d + 1) h_Ki_init_1 k_Ki_init_1 68 Q QX K 300 (k_Ki_init_1.drop 0) [(2, 67), (0, 3), (2, (-12)), (2, (-5)), (2, (-6)), (2, (-7))] [] v 68 := h
set_option maxRecDepth 100000 in
theorem c_Ki_init_1_67 (K : Q 0 (iv_Ki_init_1_67 v)) : zC l G 0 (d + 1) h_Ki_init_1 [(2, 67), (0, 3), (2, (-12)), (2, (-5)), (2, (-6)), (2, (-7))] v 68 Q := by
  refine zC_at ok_Ki_init_1 ck_Ki_init_1 rfl rfl (sg_Ki_init_1_67 ?_)
  repeat (first | refine And.intro (by decide) ?_ | refine And.intro (by unfold zI; decide) ?_ | refine And.intro (show (1 : Int) ≠ -1000 by decide) ?_)
  exact K
def iv_Ki_init_2_69 (v : zH) : zH := zupd (zborn (zupd (zupd (zupd (zupd (zupd v 69 0 5) 69 1 ((-13))) 69 2 ((-8))) 69 3 ((-9))) 69 4 ((-10))) 70) 69 5 (((70 : Nat) : Int))
set_option maxRecDepth 100000 in
theorem sg_Ki_init_2_69 {QX : Nat → zH → Prop} {K : Nat → List zV → List zV → zH → Nat → Prop} (h : zCL 69 = 1 ∧ zCL 69 = 1 ∧ zCL 69 = 1 ∧ zCL 69 = 1 ∧ zCL 69 = 1 ∧ zCL ((-10)) = 25 ∧ zI ((5 : Int) * (zLN ((-10)))) ∧ zCL ((70 : Nat) : Int) = 20 ∧ 70 + 1 ≤ 70 + hMc h_Ki_init_2 ∧ zSZ (70 + 1) ≤ zSZ 70 + hMs h_Ki_init_2 ∧ ((5 : Int) * (zLN ((-10)))) = zLN ((70 : Nat) : Int) ∧ zCL 69 = 1 ∧ 71 = 70 + hMc h_Ki_init_2 ∧ Q 0 (zupd (zborn (zupd (zupd (zupd (zupd (zupd v 69 0 5) 69 1 ((-13))) 69 2 ((-8))) 69 3 ((-9))) 69 4 ((-10))) 70) 69 5 (((70 : Nat) : Int)))) : zx l G 0 (d + 1) h_Ki_init_2 k_Ki_init_2 70 Q QX K 300 (k_Ki_init_2.drop 0) [(2, 69), (0, 5), (2, (-13)), (2, (-8)), (2, (-9)), (2, (-10))] [] v 70 := h
set_option maxRecDepth 100000 in
theorem c_Ki_init_2_69 (K : Q 0 (iv_Ki_init_2_69 v)) : zC l G 0 (d + 1) h_Ki_init_2 [(2, 69), (0, 5), (2, (-13)), (2, (-8)), (2, (-9)), (2, (-10))] v 70 Q := by
  refine zC_at ok_Ki_init_2 ck_Ki_init_2 rfl rfl (sg_Ki_init_2_69 ?_)
  repeat (first | refine And.intro (by decide) ?_ | refine And.intro (by unfold zI; decide) ?_ | refine And.intro (show (1 : Int) ≠ -1000 by decide) ?_)
  exact K
def iv_Wa_init_64 (v : zH) : zH := zupd (zborn (zupd (zborn (zupd (zborn (zupd (zborn (zupd (zborn (zupd (zborn (zupd (iv_Ki_init_2_69 (zborn (zupd (iv_Ki_init_1_67 (zborn (zupd (iv_Ki_init_0_65 (zborn v 65)) 64 0 (((65 : Nat) : Int))) 67)) 64 1 (((67 : Nat) : Int))) 69)) 64 2 (((69 : Nat) : Int))) 71) 64 3 (((71 : Nat) : Int))) 72) 64 4 (((72 : Nat) : Int))) 73) 64 5 (((73 : Nat) : Int))) 74) 64 6 (((74 : Nat) : Int))) 75) 64 7 (((75 : Nat) : Int))) 76) 64 8 (((76 : Nat) : Int))
set_option maxRecDepth 100000 in
theorem sg_Wa_init_64 {QX : Nat → zH → Prop} {K : Nat → List zV → List zV → zH → Nat → Prop} (h : zCL ((65 : Nat) : Int) = 1 ∧ 65 + 1 ≤ 65 + hMc h_Wa_init ∧ zSZ (65 + 1) ≤ zSZ 65 + hMs h_Wa_init ∧ (66 + hMc h_Ki_init_0 ≤ 65 + hMc h_Wa_init ∧ zSZ (66 + hMc h_Ki_init_0) ≤ zSZ 65 + hMs h_Wa_init ∧ zSZ (66 + hMc h_Ki_init_0) = zSZ 66 + hMs h_Ki_init_0) ∧ zC l G 0 d h_Ki_init_0 [(2, ((65 : Nat) : Int)), (0, 4), (2, (-11)), (2, (-2)), (2, (-3)), (2, (-4))] (zborn v 65) 66 (fun _ v1 => zCL 64 = 8 ∧ zCL ((67 : Nat) : Int) = 1 ∧ 67 + 1 ≤ 65 + hMc h_Wa_init ∧ zSZ (67 + 1) ≤ zSZ 65 + hMs h_Wa_init ∧ (68 + hMc h_Ki_init_1 ≤ 65 + hMc h_Wa_init ∧ zSZ (68 + hMc h_Ki_init_1) ≤ zSZ 65 + hMs h_Wa_init ∧ zSZ (68 + hMc h_Ki_init_1) = zSZ 68 + hMs h_Ki_init_1) ∧ zC l G 0 d h_Ki_init_1 [(2, ((67 : Nat) : Int)), (0, 3), (2, (-12)), (2, (-5)), (2, (-6)), (2, (-7))] (zborn (zupd v1 64 0 (((65 : Nat) : Int))) 67) 68 (fun _ v2 => zCL 64 = 8 ∧ zCL ((69 : Nat) : Int) = 1 ∧ 69 + 1 ≤ 65 + hMc h_Wa_init ∧ zSZ (69 + 1) ≤ zSZ 65 + hMs h_Wa_init ∧ (70 + hMc h_Ki_init_2 ≤ 65 + hMc h_Wa_init ∧ zSZ (70 + hMc h_Ki_init_2) ≤ zSZ 65 + hMs h_Wa_init ∧ zSZ (70 + hMc h_Ki_init_2) = zSZ 70 + hMs h_Ki_init_2) ∧ zC l G 0 d h_Ki_init_2 [(2, ((69 : Nat) : Int)), (0, 5), (2, (-13)), (2, (-8)), (2, (-9)), (2, (-10))] (zborn (zupd v2 64 1 (((67 : Nat) : Int))) 69) 70 (fun _ v3 => zCL 64 = 8 ∧ zCL ((71 : Nat) : Int) = 20 ∧ 71 + 1 ≤ 65 + hMc h_Wa_init ∧ zSZ (71 + 1) ≤ zSZ 65 + hMs h_Wa_init ∧ (24 : Int) = zLN ((71 : Nat) : Int) ∧ zCL 64 = 8 ∧ zCL ((72 : Nat) : Int) = 20 ∧ 72 + 1 ≤ 65 + hMc h_Wa_init ∧ zSZ (72 + 1) ≤ zSZ 65 + hMs h_Wa_init ∧ (4 : Int) = zLN ((72 : Nat) : Int) ∧ zCL 64 = 8 ∧ zCL ((73 : Nat) : Int) = 20 ∧ 73 + 1 ≤ 65 + hMc h_Wa_init ∧ zSZ (73 + 1) ≤ zSZ 65 + hMs h_Wa_init ∧ (24 : Int) = zLN ((73 : Nat) : Int) ∧ zCL 64 = 8 ∧ zCL ((74 : Nat) : Int) = 20 ∧ 74 + 1 ≤ 65 + hMc h_Wa_init ∧ zSZ (74 + 1) ≤ zSZ 65 + hMs h_Wa_init ∧ (24 : Int) = zLN ((74 : Nat) : Int) ∧ zCL 64 = 8 ∧ zCL ((75 : Nat) : Int) = 20 ∧ 75 + 1 ≤ 65 + hMc h_Wa_init ∧ zSZ (75 + 1) ≤ zSZ 65 + hMs h_Wa_init ∧ (24 : Int) = zLN ((75 : Nat) : Int) ∧ zCL 64 = 8 ∧ zCL ((76 : Nat) : Int) = 20 ∧ 76 + 1 ≤ 65 + hMc h_Wa_init ∧ zSZ (76 + 1) ≤ zSZ 65 + hMs h_Wa_init ∧ (96 : Int) = zLN ((76 : Nat) : Int) ∧ zCL 64 = 8 ∧ 77 = 65 + hMc h_Wa_init ∧ Q 0 (zupd (zborn (zupd (zborn (zupd (zborn (zupd (zborn (zupd (zborn (zupd (zborn (zupd v3 64 2 (((69 : Nat) : Int))) 71) 64 3 (((71 : Nat) : Int))) 72) 64 4 (((72 : Nat) : Int))) 73) 64 5 (((73 : Nat) : Int))) 74) 64 6 (((74 : Nat) : Int))) 75) 64 7 (((75 : Nat) : Int))) 76) 64 8 (((76 : Nat) : Int))))))) : zx l G 0 (d + 1) h_Wa_init k_Wa_init 65 Q QX K 300 (k_Wa_init.drop 0) [(2, 64)] [] v 65 := h
set_option maxRecDepth 100000 in
theorem c_Wa_init_64 (K : Q 0 (iv_Wa_init_64 v)) : zC l G 0 (d + 2) h_Wa_init [(2, 64)] v 65 Q := by
  refine zC_at ok_Wa_init ck_Wa_init rfl rfl (sg_Wa_init_64 ?_)
  repeat (first | refine And.intro (by decide) ?_ | refine And.intro (by unfold zI; decide) ?_ | refine And.intro (show (1 : Int) ≠ -1000 by decide) ?_)
  refine c_Ki_init_0_65 ?_
  repeat (first | refine And.intro (by decide) ?_ | refine And.intro (by unfold zI; decide) ?_ | refine And.intro (show (1 : Int) ≠ -1000 by decide) ?_)
  refine c_Ki_init_1_67 ?_
  repeat (first | refine And.intro (by decide) ?_ | refine And.intro (by unfold zI; decide) ?_ | refine And.intro (show (1 : Int) ≠ -1000 by decide) ?_)
  refine c_Ki_init_2_69 ?_
  repeat (first | refine And.intro (by decide) ?_ | refine And.intro (by unfold zI; decide) ?_ | refine And.intro (show (1 : Int) ≠ -1000 by decide) ?_)
  exact K
def iv_W_init_0 (v : zH) : zH := zupd (iv_Wa_init_64 (zborn (zupd (iv_Wa_init_51 (zborn (zupd (zborn (zupd (zborn (zupd (iv_To_init_45 (zborn (zupd (iv_Pa_init_42 (zborn (zupd (iv_Co_init_33 (zborn (zupd (iv_Co_init_24 (zborn (zupd (iv_Sk_init_5 (zborn (zupd (iv_LR_init_4 (zborn (zupd (iv_WR_init_3 (zborn (zupd (iv_Ta_init_1 (zborn v 1)) 0 0 (((1 : Nat) : Int))) 3)) 0 1 (((3 : Nat) : Int))) 4)) 0 2 (((4 : Nat) : Int))) 5)) 0 3 (((5 : Nat) : Int))) 24)) 0 4 (((24 : Nat) : Int))) 33)) 0 5 (((33 : Nat) : Int))) 42)) 0 6 (((42 : Nat) : Int))) 45)) 0 7 (((45 : Nat) : Int))) 49) 0 8 (((49 : Nat) : Int))) 50) 0 9 (((50 : Nat) : Int))) 51)) 0 10 (((51 : Nat) : Int))) 64)) 0 11 (((64 : Nat) : Int))
set_option maxRecDepth 100000 in
theorem sg_W_init_0 {QX : Nat → zH → Prop} {K : Nat → List zV → List zV → zH → Nat → Prop} (h : zCL ((1 : Nat) : Int) = 6 ∧ 1 + 1 ≤ 1 + hMc h_W_init ∧ zSZ (1 + 1) ≤ zSZ 1 + hMs h_W_init ∧ (2 + hMc h_Ta_init ≤ 1 + hMc h_W_init ∧ zSZ (2 + hMc h_Ta_init) ≤ zSZ 1 + hMs h_W_init ∧ zSZ (2 + hMc h_Ta_init) = zSZ 2 + hMs h_Ta_init) ∧ zC l G 0 d h_Ta_init [(2, ((1 : Nat) : Int))] (zborn v 1) 2 (fun _ v1 => zCL 0 = 10 ∧ zCL ((3 : Nat) : Int) = 9 ∧ 3 + 1 ≤ 1 + hMc h_W_init ∧ zSZ (3 + 1) ≤ zSZ 1 + hMs h_W_init ∧ zCL 0 = 10 ∧ (zborn (zupd v1 0 0 (((1 : Nat) : Int))) 3) 0 0 ≠ -1000 ∧ zC l G 0 d h_WR_init [(2, ((3 : Nat) : Int)), (2, (zborn (zupd v1 0 0 (((1 : Nat) : Int))) 3) 0 0)] (zborn (zupd v1 0 0 (((1 : Nat) : Int))) 3) 4 (fun _ v2 => zCL 0 = 10 ∧ zCL ((4 : Nat) : Int) = 3 ∧ 4 + 1 ≤ 1 + hMc h_W_init ∧ zSZ (4 + 1) ≤ zSZ 1 + hMs h_W_init ∧ zCL 0 = 10 ∧ (zborn (zupd v2 0 1 (((3 : Nat) : Int))) 4) 0 0 ≠ -1000 ∧ zC l G 0 d h_LR_init [(2, ((4 : Nat) : Int)), (2, (zborn (zupd v2 0 1 (((3 : Nat) : Int))) 4) 0 0)] (zborn (zupd v2 0 1 (((3 : Nat) : Int))) 4) 5 (fun _ v3 => zCL 0 = 10 ∧ zCL ((5 : Nat) : Int) = 5 ∧ 5 + 1 ≤ 1 + hMc h_W_init ∧ zSZ (5 + 1) ≤ zSZ 1 + hMs h_W_init ∧ (6 + hMc h_Sk_init ≤ 1 + hMc h_W_init ∧ zSZ (6 + hMc h_Sk_init) ≤ zSZ 1 + hMs h_W_init ∧ zSZ (6 + hMc h_Sk_init) = zSZ 6 + hMs h_Sk_init) ∧ zC l G 0 d h_Sk_init [(2, ((5 : Nat) : Int))] (zborn (zupd v3 0 2 (((4 : Nat) : Int))) 5) 6 (fun _ v4 => zCL 0 = 10 ∧ zCL ((24 : Nat) : Int) = 0 ∧ 24 + 1 ≤ 1 + hMc h_W_init ∧ zSZ (24 + 1) ≤ zSZ 1 + hMs h_W_init ∧ (25 + hMc h_Co_init ≤ 1 + hMc h_W_init ∧ zSZ (25 + hMc h_Co_init) ≤ zSZ 1 + hMs h_W_init ∧ zSZ (25 + hMc h_Co_init) = zSZ 25 + hMs h_Co_init) ∧ zC l G 0 d h_Co_init [(2, ((24 : Nat) : Int))] (zborn (zupd v4 0 3 (((5 : Nat) : Int))) 24) 25 (fun _ v5 => zCL 0 = 10 ∧ zCL ((33 : Nat) : Int) = 0 ∧ 33 + 1 ≤ 1 + hMc h_W_init ∧ zSZ (33 + 1) ≤ zSZ 1 + hMs h_W_init ∧ (34 + hMc h_Co_init ≤ 1 + hMc h_W_init ∧ zSZ (34 + hMc h_Co_init) ≤ zSZ 1 + hMs h_W_init ∧ zSZ (34 + hMc h_Co_init) = zSZ 34 + hMs h_Co_init) ∧ zC l G 0 d h_Co_init [(2, ((33 : Nat) : Int))] (zborn (zupd v5 0 4 (((24 : Nat) : Int))) 33) 34 (fun _ v6 => zCL 0 = 10 ∧ zCL ((42 : Nat) : Int) = 4 ∧ 42 + 1 ≤ 1 + hMc h_W_init ∧ zSZ (42 + 1) ≤ zSZ 1 + hMs h_W_init ∧ (43 + hMc h_Pa_init ≤ 1 + hMc h_W_init ∧ zSZ (43 + hMc h_Pa_init) ≤ zSZ 1 + hMs h_W_init ∧ zSZ (43 + hMc h_Pa_init) = zSZ 43 + hMs h_Pa_init) ∧ zC l G 0 d h_Pa_init [(2, ((42 : Nat) : Int))] (zborn (zupd v6 0 5 (((33 : Nat) : Int))) 42) 43 (fun _ v7 => zCL 0 = 10 ∧ zCL ((45 : Nat) : Int) = 7 ∧ 45 + 1 ≤ 1 + hMc h_W_init ∧ zSZ (45 + 1) ≤ zSZ 1 + hMs h_W_init ∧ (46 + hMc h_To_init ≤ 1 + hMc h_W_init ∧ zSZ (46 + hMc h_To_init) ≤ zSZ 1 + hMs h_W_init ∧ zSZ (46 + hMc h_To_init) = zSZ 46 + hMs h_To_init) ∧ zC l G 0 d h_To_init [(2, ((45 : Nat) : Int))] (zborn (zupd v7 0 6 (((42 : Nat) : Int))) 45) 46 (fun _ v8 => zCL 0 = 10 ∧ zCL ((49 : Nat) : Int) = 20 ∧ 49 + 1 ≤ 1 + hMc h_W_init ∧ zSZ (49 + 1) ≤ zSZ 1 + hMs h_W_init ∧ (2400 : Int) = zLN ((49 : Nat) : Int) ∧ zCL 0 = 10 ∧ zCL ((50 : Nat) : Int) = 20 ∧ 50 + 1 ≤ 1 + hMc h_W_init ∧ zSZ (50 + 1) ≤ zSZ 1 + hMs h_W_init ∧ (504 : Int) = zLN ((50 : Nat) : Int) ∧ zCL 0 = 10 ∧ zCL ((51 : Nat) : Int) = 8 ∧ 51 + 1 ≤ 1 + hMc h_W_init ∧ zSZ (51 + 1) ≤ zSZ 1 + hMs h_W_init ∧ (52 + hMc h_Wa_init ≤ 1 + hMc h_W_init ∧ zSZ (52 + hMc h_Wa_init) ≤ zSZ 1 + hMs h_W_init ∧ zSZ (52 + hMc h_Wa_init) = zSZ 52 + hMs h_Wa_init) ∧ zC l G 0 d h_Wa_init [(2, ((51 : Nat) : Int))] (zborn (zupd (zborn (zupd (zborn (zupd v8 0 7 (((45 : Nat) : Int))) 49) 0 8 (((49 : Nat) : Int))) 50) 0 9 (((50 : Nat) : Int))) 51) 52 (fun _ v9 => zCL 0 = 10 ∧ zCL ((64 : Nat) : Int) = 8 ∧ 64 + 1 ≤ 1 + hMc h_W_init ∧ zSZ (64 + 1) ≤ zSZ 1 + hMs h_W_init ∧ (65 + hMc h_Wa_init ≤ 1 + hMc h_W_init ∧ zSZ (65 + hMc h_Wa_init) ≤ zSZ 1 + hMs h_W_init ∧ zSZ (65 + hMc h_Wa_init) = zSZ 65 + hMs h_Wa_init) ∧ zC l G 0 d h_Wa_init [(2, ((64 : Nat) : Int))] (zborn (zupd v9 0 10 (((51 : Nat) : Int))) 64) 65 (fun _ v10 => zCL 0 = 10 ∧ 77 = 1 + hMc h_W_init ∧ Q 0 (zupd v10 0 11 (((64 : Nat) : Int)))))))))))))) : zx l G 0 (d + 1) h_W_init k_W_init 1 Q QX K 300 (k_W_init.drop 0) [(2, 0)] [] v 1 := h
set_option maxRecDepth 100000 in
theorem c_W_init_0 (K : Q 0 (iv_W_init_0 v)) : zC l G 0 (d + 3) h_W_init [(2, 0)] v 1 Q := by
  refine zC_at ok_W_init ck_W_init rfl rfl (sg_W_init_0 ?_)
  repeat (first | refine And.intro (by decide) ?_ | refine And.intro (by unfold zI; decide) ?_ | refine And.intro (show (1 : Int) ≠ -1000 by decide) ?_)
  refine c_Ta_init_1 ?_
  repeat (first | refine And.intro (by decide) ?_ | refine And.intro (by unfold zI; decide) ?_ | refine And.intro (show (1 : Int) ≠ -1000 by decide) ?_)
  refine c_WR_init_3 ?_
  repeat (first | refine And.intro (by decide) ?_ | refine And.intro (by unfold zI; decide) ?_ | refine And.intro (show (1 : Int) ≠ -1000 by decide) ?_)
  refine c_LR_init_4 ?_
  repeat (first | refine And.intro (by decide) ?_ | refine And.intro (by unfold zI; decide) ?_ | refine And.intro (show (1 : Int) ≠ -1000 by decide) ?_)
  refine c_Sk_init_5 ?_
  repeat (first | refine And.intro (by decide) ?_ | refine And.intro (by unfold zI; decide) ?_ | refine And.intro (show (1 : Int) ≠ -1000 by decide) ?_)
  refine c_Co_init_24 ?_
  repeat (first | refine And.intro (by decide) ?_ | refine And.intro (by unfold zI; decide) ?_ | refine And.intro (show (1 : Int) ≠ -1000 by decide) ?_)
  refine c_Co_init_33 ?_
  repeat (first | refine And.intro (by decide) ?_ | refine And.intro (by unfold zI; decide) ?_ | refine And.intro (show (1 : Int) ≠ -1000 by decide) ?_)
  refine c_Pa_init_42 ?_
  repeat (first | refine And.intro (by decide) ?_ | refine And.intro (by unfold zI; decide) ?_ | refine And.intro (show (1 : Int) ≠ -1000 by decide) ?_)
  refine c_To_init_45 ?_
  repeat (first | refine And.intro (by decide) ?_ | refine And.intro (by unfold zI; decide) ?_ | refine And.intro (show (1 : Int) ≠ -1000 by decide) ?_)
  refine c_Wa_init_51 ?_
  repeat (first | refine And.intro (by decide) ?_ | refine And.intro (by unfold zI; decide) ?_ | refine And.intro (show (1 : Int) ≠ -1000 by decide) ?_)
  refine c_Wa_init_64 ?_
  repeat (first | refine And.intro (by decide) ?_ | refine And.intro (by unfold zI; decide) ?_ | refine And.intro (show (1 : Int) ≠ -1000 by decide) ?_)
  exact K
end
