/-! ALL MADE: from the law's entry to its loop -/
set_option maxRecDepth 100000 in
theorem sg_Lm {l : Launch} {G : zG} {d : Nat} {Q : Int → zH → Prop} {QX : Nat → zH → Prop} {K : Nat → List zV → List zV → zH → Nat → Prop} {v : zH} (h : zCL ((0 : Nat) : Int) = 10 ∧ 0 + 1 ≤ 0 + hMc h_Lw_made ∧ zSZ (0 + 1) ≤ zSZ 0 + hMs h_Lw_made ∧ (1 + hMc h_W_init ≤ 0 + hMc h_Lw_made ∧ zSZ (1 + hMc h_W_init) ≤ zSZ 0 + hMs h_Lw_made ∧ zSZ (1 + hMc h_W_init) = zSZ 1 + hMs h_W_init) ∧ zC l G 0 d h_W_init [(2, ((0 : Nat) : Int))] (zborn v 0) 1 (fun _ v1 => zCL ((77 : Nat) : Int) = 11 ∧ 77 + 1 ≤ 0 + hMc h_Lw_made ∧ zSZ (77 + 1) ≤ zSZ 0 + hMs h_Lw_made ∧ (78 + hMc h_M_init ≤ 0 + hMc h_Lw_made ∧ zSZ (78 + hMc h_M_init) ≤ zSZ 0 + hMs h_Lw_made ∧ zSZ (78 + hMc h_M_init) = zSZ 78 + hMs h_M_init) ∧ zC l G 0 d h_M_init [(2, ((77 : Nat) : Int))] (zborn v1 77) 78 (fun _ v2 => zCL ((114 : Nat) : Int) = 22 ∧ 114 + 1 ≤ 0 + hMc h_Lw_made ∧ zSZ (114 + 1) ≤ zSZ 0 + hMs h_Lw_made ∧ (1 : Int) = zLN ((114 : Nat) : Int) ∧ K 13 [(2, (-20)), (2, ((0 : Nat) : Int)), (2, ((77 : Nat) : Int)), (2, ((114 : Nat) : Int)), (0, 0), (3, 0), (3, 0)] [] (zborn v2 114) 115))) : zx l G 0 (d + 1) h_Lw_made k_Lm 0 Q QX K 300 (k_Lm.drop 0) [(2, (-20)), (3, 0), (3, 0), (3, 0), (3, 0), (3, 0), (3, 0)] [] v 0 := h
theorem sz_0 : zSZ 0 = 0 := by decide
/-- the way out at the loop's head -/
def yMd (l : Launch) (G : zG) : yE := fun p e R s m args below meth c QW =>
  ∀ (H : Heap) (locs : List Loc) (ls : Array Slot), zP G 1 vS 115 H → va_S (zA G) s.heap H locs → zLs G 115 ls 7 [(2, -20), (2, 0), (2, 77), (2, 114), (0, 0), (3, 0), (3, 0)] → W p l e R s m args below meth c H locs 115 28513 QW (F0 m 23 ls [])
theorem yMd_23 {l : Launch} {G : zG} : yJp (yMd l G) l G 0 (59 + 1) h_Lw_made 0 QF QXF 23 [(2, -20), (2, 0), (2, 77), (2, 114), (0, 0), (3, 0), (3, 0)] [] vS 115 := by
  intro p e R s m args below meth c QW C hE H locs ls hP hS hLs hSt a1 a2 a3
  rw [sz_law, sz_0]
  exact hE H locs ls (zP_S hP) hS hLs
theorem law_made {l : Launch} {G : zG} : yJp (yMd l G) l G 0 (59 + 1) h_Lw_made 0 QF QXF 0 [(2, -20), (3, 0), (3, 0), (3, 0), (3, 0), (3, 0), (3, 0)] [] (fun _ _ => 0) 0 := by
  refine ygo (code := k_Lm) yk_Lm 300 0 _ _ _ _ (yce_ck yk_Lm rfl) rfl (sg_Lm ?_)
  repeat (first | refine And.intro (by decide +kernel) ?_)
  refine c_W_init_0 ?_
  repeat (first | refine And.intro (by decide +kernel) ?_)
  refine c_M_init ?_
  repeat (first | refine And.intro (by decide +kernel) ?_)
  exact yMd_23
