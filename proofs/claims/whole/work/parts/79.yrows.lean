/-! the same rows over contexts of which more is known -/
theorem yzs_iconst {Ee : yE} {l : Launch} {G : zG} {md d : Nat} {h : zHdr} {n0 : Nat} {Q : Int → zH → Prop} {QX : Nat → zH → Prop} {pc : Nat} {L st : List zV} {v : zH} {n : Nat} {x : Int} (hd : decode (hB h) pc = .ok (.iconst x, 1)) (hx0 : zI x) (k : yJp Ee l G md d h n0 Q QX (pc + 1) L ((0, x) :: st) v n) : yJp Ee l G md d h n0 Q QX pc L st v n := by
  intro p e R s m args below meth c QW C hEe H locs ls hP hS hL hSt a1 a2 a3
  obtain ⟨⟨hx, hb, hml, hown, hts⟩, ⟨hKt, hZt, hB0, hB1⟩, ⟨hf1, hf2, hf3, hf4⟩, hin, hHR, hHX⟩ := id C
  refine lv_iconst (v := Int32.ofInt x) hx hb hd rfl ?_
  exact k p e R s m args below meth c QW C hEe H locs ls hP hS hL (zStk_c.mpr ⟨⟨hx0, by simp⟩, hSt⟩) a1 a2 a3
theorem yzs_bipush {Ee : yE} {l : Launch} {G : zG} {md d : Nat} {h : zHdr} {n0 : Nat} {Q : Int → zH → Prop} {QX : Nat → zH → Prop} {pc : Nat} {L st : List zV} {v : zH} {n : Nat} {x : Int} (hd : decode (hB h) pc = .ok (.bipush x, 2)) (h1 : -128 ≤ x) (h2 : x ≤ 127) (k : yJp Ee l G md d h n0 Q QX (pc + 2) L ((0, x) :: st) v n) : yJp Ee l G md d h n0 Q QX pc L st v n := by
  intro p e R s m args below meth c QW C hEe H locs ls hP hS hL hSt a1 a2 a3
  obtain ⟨⟨hx, hb, hml, hown, hts⟩, ⟨hKt, hZt, hB0, hB1⟩, ⟨hf1, hf2, hf3, hf4⟩, hin, hHR, hHX⟩ := id C
  refine lv_bipush (v := Int32.ofInt x) hx hb hd (z_i8 h1 h2) ?_
  exact k p e R s m args below meth c QW C hEe H locs ls hP hS hL (zStk_c.mpr ⟨⟨⟨by omega, by omega⟩, by simp⟩, hSt⟩) a1 a2 a3
theorem yzs_sipush {Ee : yE} {l : Launch} {G : zG} {md d : Nat} {h : zHdr} {n0 : Nat} {Q : Int → zH → Prop} {QX : Nat → zH → Prop} {pc : Nat} {L st : List zV} {v : zH} {n : Nat} {x : Int} (hd : decode (hB h) pc = .ok (.sipush x, 3)) (h1 : -32768 ≤ x) (h2 : x ≤ 32767) (k : yJp Ee l G md d h n0 Q QX (pc + 3) L ((0, x) :: st) v n) : yJp Ee l G md d h n0 Q QX pc L st v n := by
  intro p e R s m args below meth c QW C hEe H locs ls hP hS hL hSt a1 a2 a3
  obtain ⟨⟨hx, hb, hml, hown, hts⟩, ⟨hKt, hZt, hB0, hB1⟩, ⟨hf1, hf2, hf3, hf4⟩, hin, hHR, hHX⟩ := id C
  refine lv_sipush (v := Int32.ofInt x) hx hb hd (z_i16 h1 h2) ?_
  exact k p e R s m args below meth c QW C hEe H locs ls hP hS hL (zStk_c.mpr ⟨⟨⟨by omega, by omega⟩, by simp⟩, hSt⟩) a1 a2 a3
theorem yzs_lconst {Ee : yE} {l : Launch} {G : zG} {md d : Nat} {h : zHdr} {n0 : Nat} {Q : Int → zH → Prop} {QX : Nat → zH → Prop} {pc : Nat} {L st : List zV} {v : zH} {n : Nat} {f : Fin 2} (hd : decode (hB h) pc = .ok (.lconst f, 1)) (k : yJp Ee l G md d h n0 Q QX (pc + 1) L ((1, ((f : Nat) : Int)) :: st) v n) : yJp Ee l G md d h n0 Q QX pc L st v n := by
  intro p e R s m args below meth c QW C hEe H locs ls hP hS hL hSt a1 a2 a3
  obtain ⟨⟨hx, hb, hml, hown, hts⟩, ⟨hKt, hZt, hB0, hB1⟩, ⟨hf1, hf2, hf3, hf4⟩, hin, hHR, hHX⟩ := id C
  refine lv_lconst (v := Int64.ofInt ((f : Nat) : Int)) hx hb hd rfl ?_
  exact k p e R s m args below meth c QW C hEe H locs ls hP hS hL (zStk_c.mpr ⟨⟨⟨by omega, by omega⟩, by simp⟩, hSt⟩) a1 a2 a3
theorem yzs_ldc {Ee : yE} {l : Launch} {G : zG} {md d : Nat} {h : zHdr} {n0 : Nat} {Q : Int → zH → Prop} {QX : Nat → zH → Prop} {pc : Nat} {L st : List zV} {v : zH} {n : Nat} {i : Nat} {x : Int} (hd : decode (hB h) pc = .ok (.ldc i, 2)) (hw : Jvm.Cond.constant (hO h) i (Int32.ofInt x) ∈ zws) (hx0 : zI x) (k : yJp Ee l G md d h n0 Q QX (pc + 2) L ((0, x) :: st) v n) : yJp Ee l G md d h n0 Q QX pc L st v n := by
  intro p e R s m args below meth c QW C hEe H locs ls hP hS hL hSt a1 a2 a3
  obtain ⟨⟨hx, hb, hml, hown, hts⟩, ⟨hKt, hZt, hB0, hB1⟩, ⟨hf1, hf2, hf3, hf4⟩, hin, hHR, hHX⟩ := id C
  refine lv_ldc (v := Int32.ofInt x) hx hb hown (hts _ hw) hd ?_
  exact k p e R s m args below meth c QW C hEe H locs ls hP hS hL (zStk_c.mpr ⟨⟨hx0, by simp⟩, hSt⟩) a1 a2 a3
theorem yzs_ldcw {Ee : yE} {l : Launch} {G : zG} {md d : Nat} {h : zHdr} {n0 : Nat} {Q : Int → zH → Prop} {QX : Nat → zH → Prop} {pc : Nat} {L st : List zV} {v : zH} {n : Nat} {i : Nat} {x : Int} (hd : decode (hB h) pc = .ok (.ldc_w i, 3)) (hw : Jvm.Cond.constant (hO h) i (Int32.ofInt x) ∈ zws) (hx0 : zI x) (k : yJp Ee l G md d h n0 Q QX (pc + 3) L ((0, x) :: st) v n) : yJp Ee l G md d h n0 Q QX pc L st v n := by
  intro p e R s m args below meth c QW C hEe H locs ls hP hS hL hSt a1 a2 a3
  obtain ⟨⟨hx, hb, hml, hown, hts⟩, ⟨hKt, hZt, hB0, hB1⟩, ⟨hf1, hf2, hf3, hf4⟩, hin, hHR, hHX⟩ := id C
  refine lv_ldcw (v := Int32.ofInt x) hx hb hown (hts _ hw) hd ?_
  exact k p e R s m args below meth c QW C hEe H locs ls hP hS hL (zStk_c.mpr ⟨⟨hx0, by simp⟩, hSt⟩) a1 a2 a3
theorem yzs_ldc2 {Ee : yE} {l : Launch} {G : zG} {md d : Nat} {h : zHdr} {n0 : Nat} {Q : Int → zH → Prop} {QX : Nat → zH → Prop} {pc : Nat} {L st : List zV} {v : zH} {n : Nat} {i : Nat} {x : Int} (hd : decode (hB h) pc = .ok (.ldc2_w i, 3)) (hw : Jvm.Cond.constantLong (hO h) i (Int64.ofInt x) ∈ zws) (hx0 : zI x) (k : yJp Ee l G md d h n0 Q QX (pc + 3) L ((1, x) :: st) v n) : yJp Ee l G md d h n0 Q QX pc L st v n := by
  intro p e R s m args below meth c QW C hEe H locs ls hP hS hL hSt a1 a2 a3
  obtain ⟨⟨hx, hb, hml, hown, hts⟩, ⟨hKt, hZt, hB0, hB1⟩, ⟨hf1, hf2, hf3, hf4⟩, hin, hHR, hHX⟩ := id C
  refine lv_ldc2 (v := Int64.ofInt x) hx hb hown (hts _ hw) hd ?_
  exact k p e R s m args below meth c QW C hEe H locs ls hP hS hL (zStk_c.mpr ⟨⟨⟨by have := hx0.1; omega, by have := hx0.2; omega⟩, by simp⟩, hSt⟩) a1 a2 a3
theorem yzs_ldcS {Ee : yE} {l : Launch} {G : zG} {md d : Nat} {h : zHdr} {n0 : Nat} {Q : Int → zH → Prop} {QX : Nat → zH → Prop} {pc : Nat} {L st : List zV} {v : zH} {n : Nat} {i : Nat} {x : Int} {tx : String} (hd : decode (hB h) pc = .ok (.ldc i, 2)) (hZ : ∀ U H, zSt G U H → vk_R (hO h) i tx (zgA G x) U) (hx0 : -40 ≤ x ∧ x < 0) (k : yJp Ee l G md d h n0 Q QX (pc + 2) L ((2, x) :: st) v n) : yJp Ee l G md d h n0 Q QX pc L st v n := by
  intro p e R s m args below meth c QW C hEe H locs ls hP hS hL hSt a1 a2 a3
  obtain ⟨⟨hx, hb, hml, hown, hts⟩, ⟨hKt, hZt, hB0, hB1⟩, ⟨hf1, hf2, hf3, hf4⟩, hin, hHR, hHX⟩ := id C
  refine va_ldcS (q := zgA G x) hx hb hown (hZ _ _ hZt) hd ?_
  rw [show (Value.ref (zgA G x)) = zc G (2, x) by rw [zc_ref (by omega)]; simp [zad, hx0.2]]
  exact k p e R s m args below meth c QW C hEe H locs ls hP hS hL (zStk_c.mpr ⟨⟨⟨hx0.1, by omega⟩, by simp⟩, hSt⟩) a1 a2 a3
theorem yzs_iload {Ee : yE} {l : Launch} {G : zG} {md d : Nat} {h : zHdr} {n0 : Nat} {Q : Int → zH → Prop} {QX : Nat → zH → Prop} {pc : Nat} {L st : List zV} {v : zH} {n : Nat} {i : Nat} {x : Int} (hd : decode (hB h) pc = .ok (.iload i, 2)) (hl : L[i]? = some (0, x)) (k : yJp Ee l G md d h n0 Q QX (pc + 2) L ((0, x) :: st) v n) : yJp Ee l G md d h n0 Q QX pc L st v n := by
  intro p e R s m args below meth c QW C hEe H locs ls hP hS hL hSt a1 a2 a3
  obtain ⟨⟨hx, hb, hml, hown, hts⟩, ⟨hKt, hZt, hB0, hB1⟩, ⟨hf1, hf2, hf3, hf4⟩, hin, hHR, hHX⟩ := id C
  refine lv_iload hx hb hd (hL.2.2 i 0 x hl (by decide)).1 ?_
  exact k p e R s m args below meth c QW C hEe H locs ls hP hS hL (zStk_c.mpr ⟨⟨(hL.2.2 i 0 x hl (by decide)).2, by simp⟩, hSt⟩) a1 a2 a3
theorem yzs_iload_n {Ee : yE} {l : Launch} {G : zG} {md d : Nat} {h : zHdr} {n0 : Nat} {Q : Int → zH → Prop} {QX : Nat → zH → Prop} {pc : Nat} {L st : List zV} {v : zH} {n : Nat} {i : Fin 4} {x : Int} (hd : decode (hB h) pc = .ok (.iload_n i, 1)) (hl : L[(i : Nat)]? = some (0, x)) (k : yJp Ee l G md d h n0 Q QX (pc + 1) L ((0, x) :: st) v n) : yJp Ee l G md d h n0 Q QX pc L st v n := by
  intro p e R s m args below meth c QW C hEe H locs ls hP hS hL hSt a1 a2 a3
  obtain ⟨⟨hx, hb, hml, hown, hts⟩, ⟨hKt, hZt, hB0, hB1⟩, ⟨hf1, hf2, hf3, hf4⟩, hin, hHR, hHX⟩ := id C
  refine lv_iload_n hx hb hd rfl (hL.2.2 i 0 x hl (by decide)).1 ?_
  exact k p e R s m args below meth c QW C hEe H locs ls hP hS hL (zStk_c.mpr ⟨⟨(hL.2.2 i 0 x hl (by decide)).2, by simp⟩, hSt⟩) a1 a2 a3
theorem yzs_lload {Ee : yE} {l : Launch} {G : zG} {md d : Nat} {h : zHdr} {n0 : Nat} {Q : Int → zH → Prop} {QX : Nat → zH → Prop} {pc : Nat} {L st : List zV} {v : zH} {n : Nat} {i : Nat} {x : Int} (hd : decode (hB h) pc = .ok (.lload i, 2)) (hl : L[i]? = some (1, x)) (k : yJp Ee l G md d h n0 Q QX (pc + 2) L ((1, x) :: st) v n) : yJp Ee l G md d h n0 Q QX pc L st v n := by
  intro p e R s m args below meth c QW C hEe H locs ls hP hS hL hSt a1 a2 a3
  obtain ⟨⟨hx, hb, hml, hown, hts⟩, ⟨hKt, hZt, hB0, hB1⟩, ⟨hf1, hf2, hf3, hf4⟩, hin, hHR, hHX⟩ := id C
  refine lv_lload hx hb hd (hL.2.2 i 1 x hl (by decide)).1 ?_
  exact k p e R s m args below meth c QW C hEe H locs ls hP hS hL (zStk_c.mpr ⟨⟨(hL.2.2 i 1 x hl (by decide)).2, by simp⟩, hSt⟩) a1 a2 a3
theorem yzs_lload_n {Ee : yE} {l : Launch} {G : zG} {md d : Nat} {h : zHdr} {n0 : Nat} {Q : Int → zH → Prop} {QX : Nat → zH → Prop} {pc : Nat} {L st : List zV} {v : zH} {n : Nat} {i : Fin 4} {x : Int} (hd : decode (hB h) pc = .ok (.lload_n i, 1)) (hl : L[(i : Nat)]? = some (1, x)) (k : yJp Ee l G md d h n0 Q QX (pc + 1) L ((1, x) :: st) v n) : yJp Ee l G md d h n0 Q QX pc L st v n := by
  intro p e R s m args below meth c QW C hEe H locs ls hP hS hL hSt a1 a2 a3
  obtain ⟨⟨hx, hb, hml, hown, hts⟩, ⟨hKt, hZt, hB0, hB1⟩, ⟨hf1, hf2, hf3, hf4⟩, hin, hHR, hHX⟩ := id C
  refine lv_lload_n hx hb hd rfl (hL.2.2 i 1 x hl (by decide)).1 ?_
  exact k p e R s m args below meth c QW C hEe H locs ls hP hS hL (zStk_c.mpr ⟨⟨(hL.2.2 i 1 x hl (by decide)).2, by simp⟩, hSt⟩) a1 a2 a3
theorem yzs_aload {Ee : yE} {l : Launch} {G : zG} {md d : Nat} {h : zHdr} {n0 : Nat} {Q : Int → zH → Prop} {QX : Nat → zH → Prop} {pc : Nat} {L st : List zV} {v : zH} {n : Nat} {i : Nat} {x : Int} (hd : decode (hB h) pc = .ok (.aload i, 2)) (hl : L[i]? = some (2, x)) (k : yJp Ee l G md d h n0 Q QX (pc + 2) L ((2, x) :: st) v n) : yJp Ee l G md d h n0 Q QX pc L st v n := by
  intro p e R s m args below meth c QW C hEe H locs ls hP hS hL hSt a1 a2 a3
  obtain ⟨⟨hx, hb, hml, hown, hts⟩, ⟨hKt, hZt, hB0, hB1⟩, ⟨hf1, hf2, hf3, hf4⟩, hin, hHR, hHX⟩ := id C
  have hg := hL.2.2 i 2 x hl (by decide)
  rw [zc_ref (zRg_ref hg.2)] at hg
  refine lv_aload hx hb hd hg.1 ?_
  rw [← zc_ref (G := G) (zRg_ref hg.2)]
  exact k p e R s m args below meth c QW C hEe H locs ls hP hS hL (zStk_c.mpr ⟨⟨hg.2, by simp⟩, hSt⟩) a1 a2 a3
theorem yzs_aload_n {Ee : yE} {l : Launch} {G : zG} {md d : Nat} {h : zHdr} {n0 : Nat} {Q : Int → zH → Prop} {QX : Nat → zH → Prop} {pc : Nat} {L st : List zV} {v : zH} {n : Nat} {i : Fin 4} {x : Int} (hd : decode (hB h) pc = .ok (.aload_n i, 1)) (hl : L[(i : Nat)]? = some (2, x)) (k : yJp Ee l G md d h n0 Q QX (pc + 1) L ((2, x) :: st) v n) : yJp Ee l G md d h n0 Q QX pc L st v n := by
  intro p e R s m args below meth c QW C hEe H locs ls hP hS hL hSt a1 a2 a3
  obtain ⟨⟨hx, hb, hml, hown, hts⟩, ⟨hKt, hZt, hB0, hB1⟩, ⟨hf1, hf2, hf3, hf4⟩, hin, hHR, hHX⟩ := id C
  have hg := hL.2.2 i 2 x hl (by decide)
  rw [zc_ref (zRg_ref hg.2)] at hg
  refine lv_aload_n hx hb hd rfl hg.1 ?_
  rw [← zc_ref (G := G) (zRg_ref hg.2)]
  exact k p e R s m args below meth c QW C hEe H locs ls hP hS hL (zStk_c.mpr ⟨⟨hg.2, by simp⟩, hSt⟩) a1 a2 a3
theorem yzs_istore {Ee : yE} {l : Launch} {G : zG} {md d : Nat} {h : zHdr} {n0 : Nat} {Q : Int → zH → Prop} {QX : Nat → zH → Prop} {pc : Nat} {L r : List zV} {v : zH} {n : Nat} {i : Nat} {x : Int} (hd : decode (hB h) pc = .ok (.istore i, 2)) (hlen : i < L.length) (hLL : L.length = hL h) (hp : zpl L i = false) (k : yJp Ee l G md d h n0 Q QX (pc + 2) (L.set i (0, x)) r v n) : yJp Ee l G md d h n0 Q QX pc L ((0, x) :: r) v n := by
  intro p e R s m args below meth c QW C hEe H locs ls hP hS hL hSt a1 a2 a3
  obtain ⟨⟨hx, hb, hml, hown, hts⟩, ⟨hKt, hZt, hB0, hB1⟩, ⟨hf1, hf2, hf3, hf4⟩, hin, hHR, hHX⟩ := id C
  have hq := (zStk_c.mp hSt).1.1
  show W p l e R s m args below meth c H locs (n - n0) (zSZ n - zSZ n0) QW (F0 m pc ls (.int (Int32.ofInt x) :: r.map (zc G)))
  refine lv_istore hx hb hd (zlist_has hL) (by have := hlen; omega) rfl (fun ls2 h2 => ?_)
  have hL2 := zLs_set1 hp (by have := hlen; omega) hq (rfl) hL h2
  exact k p e R s m args below meth c QW C hEe H locs ls2 hP hS hL2 (zStk_c.mp hSt).2 a1 a2 a3
theorem yzs_istore_n {Ee : yE} {l : Launch} {G : zG} {md d : Nat} {h : zHdr} {n0 : Nat} {Q : Int → zH → Prop} {QX : Nat → zH → Prop} {pc : Nat} {L r : List zV} {v : zH} {n : Nat} {i : Fin 4} {x : Int} (hd : decode (hB h) pc = .ok (.istore_n i, 1)) (hlen : (i : Nat) < L.length) (hLL : L.length = hL h) (hp : zpl L (i : Nat) = false) (k : yJp Ee l G md d h n0 Q QX (pc + 1) (L.set (i : Nat) (0, x)) r v n) : yJp Ee l G md d h n0 Q QX pc L ((0, x) :: r) v n := by
  intro p e R s m args below meth c QW C hEe H locs ls hP hS hL hSt a1 a2 a3
  obtain ⟨⟨hx, hb, hml, hown, hts⟩, ⟨hKt, hZt, hB0, hB1⟩, ⟨hf1, hf2, hf3, hf4⟩, hin, hHR, hHX⟩ := id C
  have hq := (zStk_c.mp hSt).1.1
  show W p l e R s m args below meth c H locs (n - n0) (zSZ n - zSZ n0) QW (F0 m pc ls (.int (Int32.ofInt x) :: r.map (zc G)))
  refine lv_istore_n hx hb hd rfl (zlist_has hL) (by have := hlen; omega) rfl (fun ls2 h2 => ?_)
  have hL2 := zLs_set1 hp (by have := hlen; omega) hq (rfl) hL h2
  exact k p e R s m args below meth c QW C hEe H locs ls2 hP hS hL2 (zStk_c.mp hSt).2 a1 a2 a3
theorem yzs_astore {Ee : yE} {l : Launch} {G : zG} {md d : Nat} {h : zHdr} {n0 : Nat} {Q : Int → zH → Prop} {QX : Nat → zH → Prop} {pc : Nat} {L r : List zV} {v : zH} {n : Nat} {i : Nat} {x : Int} (hd : decode (hB h) pc = .ok (.astore i, 2)) (hlen : i < L.length) (hLL : L.length = hL h) (hp : zpl L i = false) (k : yJp Ee l G md d h n0 Q QX (pc + 2) (L.set i (2, x)) r v n) : yJp Ee l G md d h n0 Q QX pc L ((2, x) :: r) v n := by
  intro p e R s m args below meth c QW C hEe H locs ls hP hS hL hSt a1 a2 a3
  obtain ⟨⟨hx, hb, hml, hown, hts⟩, ⟨hKt, hZt, hB0, hB1⟩, ⟨hf1, hf2, hf3, hf4⟩, hin, hHR, hHX⟩ := id C
  have hq := (zStk_c.mp hSt).1.1
  show W p l e R s m args below meth c H locs (n - n0) (zSZ n - zSZ n0) QW (F0 m pc ls (zc G (2, x) :: r.map (zc G)))
  rw [zc_ref (zRg_ref hq)]
  refine lv_astore hx hb hd (zlist_has hL) (by have := hlen; omega) rfl (fun ls2 h2 => ?_)
  have hL2 := zLs_set1 hp (by have := hlen; omega) hq ((zc_ref (zRg_ref hq)).symm) hL h2
  exact k p e R s m args below meth c QW C hEe H locs ls2 hP hS hL2 (zStk_c.mp hSt).2 a1 a2 a3
theorem yzs_astore_n {Ee : yE} {l : Launch} {G : zG} {md d : Nat} {h : zHdr} {n0 : Nat} {Q : Int → zH → Prop} {QX : Nat → zH → Prop} {pc : Nat} {L r : List zV} {v : zH} {n : Nat} {i : Fin 4} {x : Int} (hd : decode (hB h) pc = .ok (.astore_n i, 1)) (hlen : (i : Nat) < L.length) (hLL : L.length = hL h) (hp : zpl L (i : Nat) = false) (k : yJp Ee l G md d h n0 Q QX (pc + 1) (L.set (i : Nat) (2, x)) r v n) : yJp Ee l G md d h n0 Q QX pc L ((2, x) :: r) v n := by
  intro p e R s m args below meth c QW C hEe H locs ls hP hS hL hSt a1 a2 a3
  obtain ⟨⟨hx, hb, hml, hown, hts⟩, ⟨hKt, hZt, hB0, hB1⟩, ⟨hf1, hf2, hf3, hf4⟩, hin, hHR, hHX⟩ := id C
  have hq := (zStk_c.mp hSt).1.1
  show W p l e R s m args below meth c H locs (n - n0) (zSZ n - zSZ n0) QW (F0 m pc ls (zc G (2, x) :: r.map (zc G)))
  rw [zc_ref (zRg_ref hq)]
  refine lv_astore_n hx hb hd rfl (zlist_has hL) (by have := hlen; omega) rfl (fun ls2 h2 => ?_)
  have hL2 := zLs_set1 hp (by have := hlen; omega) hq ((zc_ref (zRg_ref hq)).symm) hL h2
  exact k p e R s m args below meth c QW C hEe H locs ls2 hP hS hL2 (zStk_c.mp hSt).2 a1 a2 a3
theorem yzs_lstore {Ee : yE} {l : Launch} {G : zG} {md d : Nat} {h : zHdr} {n0 : Nat} {Q : Int → zH → Prop} {QX : Nat → zH → Prop} {pc : Nat} {L r : List zV} {v : zH} {n : Nat} {i : Nat} {x : Int} (hd : decode (hB h) pc = .ok (.lstore i, 2)) (hlen : i + 1 < L.length) (hLL : L.length = hL h) (hp : zpl L i = false) (k : yJp Ee l G md d h n0 Q QX (pc + 2) ((L.set i (1, x)).set (i + 1) (3, 0)) r v n) : yJp Ee l G md d h n0 Q QX pc L ((1, x) :: r) v n := by
  intro p e R s m args below meth c QW C hEe H locs ls hP hS hL hSt a1 a2 a3
  obtain ⟨⟨hx, hb, hml, hown, hts⟩, ⟨hKt, hZt, hB0, hB1⟩, ⟨hf1, hf2, hf3, hf4⟩, hin, hHR, hHX⟩ := id C
  have hq := (zStk_c.mp hSt).1.1
  show W p l e R s m args below meth c H locs (n - n0) (zSZ n - zSZ n0) QW (F0 m pc ls (.long (Int64.ofInt x) :: r.map (zc G)))
  refine lv_lstore hx hb hd (zlist_has hL) (by have := hlen; omega) rfl (fun ls2 h2 => ?_)
  have hL2 := zLs_set2 hp (by have := hlen; omega) hq hL h2
  exact k p e R s m args below meth c QW C hEe H locs ls2 hP hS hL2 (zStk_c.mp hSt).2 a1 a2 a3
theorem yzs_lstore_n {Ee : yE} {l : Launch} {G : zG} {md d : Nat} {h : zHdr} {n0 : Nat} {Q : Int → zH → Prop} {QX : Nat → zH → Prop} {pc : Nat} {L r : List zV} {v : zH} {n : Nat} {i : Fin 4} {x : Int} (hd : decode (hB h) pc = .ok (.lstore_n i, 1)) (hlen : (i : Nat) + 1 < L.length) (hLL : L.length = hL h) (hp : zpl L (i : Nat) = false) (k : yJp Ee l G md d h n0 Q QX (pc + 1) ((L.set (i : Nat) (1, x)).set ((i : Nat) + 1) (3, 0)) r v n) : yJp Ee l G md d h n0 Q QX pc L ((1, x) :: r) v n := by
  intro p e R s m args below meth c QW C hEe H locs ls hP hS hL hSt a1 a2 a3
  obtain ⟨⟨hx, hb, hml, hown, hts⟩, ⟨hKt, hZt, hB0, hB1⟩, ⟨hf1, hf2, hf3, hf4⟩, hin, hHR, hHX⟩ := id C
  have hq := (zStk_c.mp hSt).1.1
  show W p l e R s m args below meth c H locs (n - n0) (zSZ n - zSZ n0) QW (F0 m pc ls (.long (Int64.ofInt x) :: r.map (zc G)))
  refine lv_lstore_n hx hb hd rfl (zlist_has hL) (by have := hlen; omega) rfl (fun ls2 h2 => ?_)
  have hL2 := zLs_set2 hp (by have := hlen; omega) hq hL h2
  exact k p e R s m args below meth c QW C hEe H locs ls2 hP hS hL2 (zStk_c.mp hSt).2 a1 a2 a3
theorem yzs_iinc {Ee : yE} {l : Launch} {G : zG} {md d : Nat} {h : zHdr} {n0 : Nat} {Q : Int → zH → Prop} {QX : Nat → zH → Prop} {pc : Nat} {L st : List zV} {v : zH} {n : Nat} {i : Nat} {x b : Int} (hd : decode (hB h) pc = .ok (.iinc i b, 3)) (hl : L[i]? = some (0, x)) (hLL : L.length = hL h) (hp : zpl L i = false) (hx0 : zI (x + b)) (k : yJp Ee l G md d h n0 Q QX (pc + 3) (L.set i (0, x + b)) st v n) : yJp Ee l G md d h n0 Q QX pc L st v n := by
  intro p e R s m args below meth c QW C hEe H locs ls hP hS hL hSt a1 a2 a3
  obtain ⟨⟨hx, hb, hml, hown, hts⟩, ⟨hKt, hZt, hB0, hB1⟩, ⟨hf1, hf2, hf3, hf4⟩, hin, hHR, hHX⟩ := id C
  have hlen := (List.getElem?_eq_some_iff.mp hl).1
  obtain ⟨k0, hk0⟩ := List.getElem?_of_mem (zlist_mem (G := G) hl (by decide))
  refine lv_iinc (v := Int32.ofInt (x + b)) (k := k0) (x := Int32.ofInt x) hx hb hd (zlist_has hL) hk0 (by rw [Int32.ofInt_add]) (by omega) rfl (fun ls2 h2 => ?_)
  have hL2 := zLs_set1 (t := 0) hp hlen hx0 rfl hL h2
  exact k p e R s m args below meth c QW C hEe H locs ls2 hP hS hL2 hSt a1 a2 a3
theorem yzs_iadd {Ee : yE} {l : Launch} {G : zG} {md d : Nat} {h : zHdr} {n0 : Nat} {Q : Int → zH → Prop} {QX : Nat → zH → Prop} {pc : Nat} {L r : List zV} {v : zH} {n : Nat} {x y : Int} (hd : decode (hB h) pc = .ok (.iadd, 1)) (hq0 : zI (x + y)) (k : yJp Ee l G md d h n0 Q QX (pc + 1) L ((0, x + y) :: r) v n) : yJp Ee l G md d h n0 Q QX pc L ((0, y) :: (0, x) :: r) v n := by
  intro p e R s m args below meth c QW C hEe H locs ls hP hS hL hSt a1 a2 a3
  obtain ⟨⟨hx, hb, hml, hown, hts⟩, ⟨hKt, hZt, hB0, hB1⟩, ⟨hf1, hf2, hf3, hf4⟩, hin, hHR, hHX⟩ := id C
  obtain ⟨⟨hy, -⟩, hSt1⟩ := zStk_c.mp hSt
  obtain ⟨⟨hxx, -⟩, hSt2⟩ := zStk_c.mp hSt1
  show W p l e R s m args below meth c H locs (n - n0) (zSZ n - zSZ n0) QW (F0 m pc ls (.int (Int32.ofInt y) :: .int (Int32.ofInt x) :: r.map (zc G)))
  refine lv_iadd hx hb hd ?_
  rw [← Int32.ofInt_add]
  exact k p e R s m args below meth c QW C hEe H locs ls hP hS hL (zStk_c.mpr ⟨⟨hq0, by simp⟩, hSt2⟩) a1 a2 a3
theorem yzs_isub {Ee : yE} {l : Launch} {G : zG} {md d : Nat} {h : zHdr} {n0 : Nat} {Q : Int → zH → Prop} {QX : Nat → zH → Prop} {pc : Nat} {L r : List zV} {v : zH} {n : Nat} {x y : Int} (hd : decode (hB h) pc = .ok (.isub, 1)) (hq0 : zI (x - y)) (k : yJp Ee l G md d h n0 Q QX (pc + 1) L ((0, x - y) :: r) v n) : yJp Ee l G md d h n0 Q QX pc L ((0, y) :: (0, x) :: r) v n := by
  intro p e R s m args below meth c QW C hEe H locs ls hP hS hL hSt a1 a2 a3
  obtain ⟨⟨hx, hb, hml, hown, hts⟩, ⟨hKt, hZt, hB0, hB1⟩, ⟨hf1, hf2, hf3, hf4⟩, hin, hHR, hHX⟩ := id C
  obtain ⟨⟨hy, -⟩, hSt1⟩ := zStk_c.mp hSt
  obtain ⟨⟨hxx, -⟩, hSt2⟩ := zStk_c.mp hSt1
  show W p l e R s m args below meth c H locs (n - n0) (zSZ n - zSZ n0) QW (F0 m pc ls (.int (Int32.ofInt y) :: .int (Int32.ofInt x) :: r.map (zc G)))
  refine lv_isub hx hb hd ?_
  rw [← Int32.ofInt_sub]
  exact k p e R s m args below meth c QW C hEe H locs ls hP hS hL (zStk_c.mpr ⟨⟨hq0, by simp⟩, hSt2⟩) a1 a2 a3
theorem yzs_imul {Ee : yE} {l : Launch} {G : zG} {md d : Nat} {h : zHdr} {n0 : Nat} {Q : Int → zH → Prop} {QX : Nat → zH → Prop} {pc : Nat} {L r : List zV} {v : zH} {n : Nat} {x y : Int} (hd : decode (hB h) pc = .ok (.imul, 1)) (hq0 : zI (x * y)) (k : yJp Ee l G md d h n0 Q QX (pc + 1) L ((0, x * y) :: r) v n) : yJp Ee l G md d h n0 Q QX pc L ((0, y) :: (0, x) :: r) v n := by
  intro p e R s m args below meth c QW C hEe H locs ls hP hS hL hSt a1 a2 a3
  obtain ⟨⟨hx, hb, hml, hown, hts⟩, ⟨hKt, hZt, hB0, hB1⟩, ⟨hf1, hf2, hf3, hf4⟩, hin, hHR, hHX⟩ := id C
  obtain ⟨⟨hy, -⟩, hSt1⟩ := zStk_c.mp hSt
  obtain ⟨⟨hxx, -⟩, hSt2⟩ := zStk_c.mp hSt1
  show W p l e R s m args below meth c H locs (n - n0) (zSZ n - zSZ n0) QW (F0 m pc ls (.int (Int32.ofInt y) :: .int (Int32.ofInt x) :: r.map (zc G)))
  refine lv_imul hx hb hd ?_
  rw [← Int32.ofInt_mul]
  exact k p e R s m args below meth c QW C hEe H locs ls hP hS hL (zStk_c.mpr ⟨⟨hq0, by simp⟩, hSt2⟩) a1 a2 a3
theorem yzs_ladd {Ee : yE} {l : Launch} {G : zG} {md d : Nat} {h : zHdr} {n0 : Nat} {Q : Int → zH → Prop} {QX : Nat → zH → Prop} {pc : Nat} {L r : List zV} {v : zH} {n : Nat} {x y : Int} (hd : decode (hB h) pc = .ok (.ladd, 1)) (hq0 : zLg (x + y)) (k : yJp Ee l G md d h n0 Q QX (pc + 1) L ((1, x + y) :: r) v n) : yJp Ee l G md d h n0 Q QX pc L ((1, y) :: (1, x) :: r) v n := by
  intro p e R s m args below meth c QW C hEe H locs ls hP hS hL hSt a1 a2 a3
  obtain ⟨⟨hx, hb, hml, hown, hts⟩, ⟨hKt, hZt, hB0, hB1⟩, ⟨hf1, hf2, hf3, hf4⟩, hin, hHR, hHX⟩ := id C
  obtain ⟨⟨hy, -⟩, hSt1⟩ := zStk_c.mp hSt
  obtain ⟨⟨hxx, -⟩, hSt2⟩ := zStk_c.mp hSt1
  show W p l e R s m args below meth c H locs (n - n0) (zSZ n - zSZ n0) QW (F0 m pc ls (.long (Int64.ofInt y) :: .long (Int64.ofInt x) :: r.map (zc G)))
  refine lv_ladd hx hb hd ?_
  rw [← Int64.ofInt_add]
  exact k p e R s m args below meth c QW C hEe H locs ls hP hS hL (zStk_c.mpr ⟨⟨hq0, by simp⟩, hSt2⟩) a1 a2 a3
theorem yzs_lsub {Ee : yE} {l : Launch} {G : zG} {md d : Nat} {h : zHdr} {n0 : Nat} {Q : Int → zH → Prop} {QX : Nat → zH → Prop} {pc : Nat} {L r : List zV} {v : zH} {n : Nat} {x y : Int} (hd : decode (hB h) pc = .ok (.lsub, 1)) (hq0 : zLg (x - y)) (k : yJp Ee l G md d h n0 Q QX (pc + 1) L ((1, x - y) :: r) v n) : yJp Ee l G md d h n0 Q QX pc L ((1, y) :: (1, x) :: r) v n := by
  intro p e R s m args below meth c QW C hEe H locs ls hP hS hL hSt a1 a2 a3
  obtain ⟨⟨hx, hb, hml, hown, hts⟩, ⟨hKt, hZt, hB0, hB1⟩, ⟨hf1, hf2, hf3, hf4⟩, hin, hHR, hHX⟩ := id C
  obtain ⟨⟨hy, -⟩, hSt1⟩ := zStk_c.mp hSt
  obtain ⟨⟨hxx, -⟩, hSt2⟩ := zStk_c.mp hSt1
  show W p l e R s m args below meth c H locs (n - n0) (zSZ n - zSZ n0) QW (F0 m pc ls (.long (Int64.ofInt y) :: .long (Int64.ofInt x) :: r.map (zc G)))
  refine lv_lsub hx hb hd ?_
  rw [← Int64.ofInt_sub]
  exact k p e R s m args below meth c QW C hEe H locs ls hP hS hL (zStk_c.mpr ⟨⟨hq0, by simp⟩, hSt2⟩) a1 a2 a3
theorem yzs_lmul {Ee : yE} {l : Launch} {G : zG} {md d : Nat} {h : zHdr} {n0 : Nat} {Q : Int → zH → Prop} {QX : Nat → zH → Prop} {pc : Nat} {L r : List zV} {v : zH} {n : Nat} {x y : Int} (hd : decode (hB h) pc = .ok (.lmul, 1)) (hq0 : zLg (x * y)) (k : yJp Ee l G md d h n0 Q QX (pc + 1) L ((1, x * y) :: r) v n) : yJp Ee l G md d h n0 Q QX pc L ((1, y) :: (1, x) :: r) v n := by
  intro p e R s m args below meth c QW C hEe H locs ls hP hS hL hSt a1 a2 a3
  obtain ⟨⟨hx, hb, hml, hown, hts⟩, ⟨hKt, hZt, hB0, hB1⟩, ⟨hf1, hf2, hf3, hf4⟩, hin, hHR, hHX⟩ := id C
  obtain ⟨⟨hy, -⟩, hSt1⟩ := zStk_c.mp hSt
  obtain ⟨⟨hxx, -⟩, hSt2⟩ := zStk_c.mp hSt1
  show W p l e R s m args below meth c H locs (n - n0) (zSZ n - zSZ n0) QW (F0 m pc ls (.long (Int64.ofInt y) :: .long (Int64.ofInt x) :: r.map (zc G)))
  refine lv_lmul hx hb hd ?_
  rw [← Int64.ofInt_mul]
  exact k p e R s m args below meth c QW C hEe H locs ls hP hS hL (zStk_c.mpr ⟨⟨hq0, by simp⟩, hSt2⟩) a1 a2 a3
theorem yzs_idiv {Ee : yE} {l : Launch} {G : zG} {md d : Nat} {h : zHdr} {n0 : Nat} {Q : Int → zH → Prop} {QX : Nat → zH → Prop} {pc : Nat} {L r : List zV} {v : zH} {n : Nat} {x y : Int} (hd : decode (hB h) pc = .ok (.idiv, 1)) (hne : ¬ y = 0) (hq0 : zI (x.tdiv y)) (k : yJp Ee l G md d h n0 Q QX (pc + 1) L ((0, x.tdiv y) :: r) v n) : yJp Ee l G md d h n0 Q QX pc L ((0, y) :: (0, x) :: r) v n := by
  intro p e R s m args below meth c QW C hEe H locs ls hP hS hL hSt a1 a2 a3
  obtain ⟨⟨hx, hb, hml, hown, hts⟩, ⟨hKt, hZt, hB0, hB1⟩, ⟨hf1, hf2, hf3, hf4⟩, hin, hHR, hHX⟩ := id C
  obtain ⟨⟨hy, -⟩, hSt1⟩ := zStk_c.mp hSt
  obtain ⟨⟨hxx, -⟩, hSt2⟩ := zStk_c.mp hSt1
  show W p l e R s m args below meth c H locs (n - n0) (zSZ n - zSZ n0) QW (F0 m pc ls (.int (Int32.ofInt y) :: .int (Int32.ofInt x) :: r.map (zc G)))
  refine lv_idiv hx hb hd (fun z => hne ((z32_0 hy).mp z)) ?_
  rw [z32_div hxx hy hq0]
  exact k p e R s m args below meth c QW C hEe H locs ls hP hS hL (zStk_c.mpr ⟨⟨hq0, by simp⟩, hSt2⟩) a1 a2 a3
theorem yzs_irem {Ee : yE} {l : Launch} {G : zG} {md d : Nat} {h : zHdr} {n0 : Nat} {Q : Int → zH → Prop} {QX : Nat → zH → Prop} {pc : Nat} {L r : List zV} {v : zH} {n : Nat} {x y : Int} (hd : decode (hB h) pc = .ok (.irem, 1)) (hne : ¬ y = 0) (hq0 : zI (x.tdiv y)) (k : yJp Ee l G md d h n0 Q QX (pc + 1) L ((0, x.tmod y) :: r) v n) : yJp Ee l G md d h n0 Q QX pc L ((0, y) :: (0, x) :: r) v n := by
  intro p e R s m args below meth c QW C hEe H locs ls hP hS hL hSt a1 a2 a3
  obtain ⟨⟨hx, hb, hml, hown, hts⟩, ⟨hKt, hZt, hB0, hB1⟩, ⟨hf1, hf2, hf3, hf4⟩, hin, hHR, hHX⟩ := id C
  obtain ⟨⟨hy, -⟩, hSt1⟩ := zStk_c.mp hSt
  obtain ⟨⟨hxx, -⟩, hSt2⟩ := zStk_c.mp hSt1
  show W p l e R s m args below meth c H locs (n - n0) (zSZ n - zSZ n0) QW (F0 m pc ls (.int (Int32.ofInt y) :: .int (Int32.ofInt x) :: r.map (zc G)))
  refine lv_irem hx hb hd (fun z => hne ((z32_0 hy).mp z)) ?_
  rw [z32_rem hxx hy hq0]
  exact k p e R s m args below meth c QW C hEe H locs ls hP hS hL (zStk_c.mpr ⟨⟨zI_mod hxx hne, by simp⟩, hSt2⟩) a1 a2 a3
theorem yzs_ldiv {Ee : yE} {l : Launch} {G : zG} {md d : Nat} {h : zHdr} {n0 : Nat} {Q : Int → zH → Prop} {QX : Nat → zH → Prop} {pc : Nat} {L r : List zV} {v : zH} {n : Nat} {x y : Int} (hd : decode (hB h) pc = .ok (.ldiv, 1)) (hne : ¬ y = 0) (hq0 : zLg (x.tdiv y)) (k : yJp Ee l G md d h n0 Q QX (pc + 1) L ((1, x.tdiv y) :: r) v n) : yJp Ee l G md d h n0 Q QX pc L ((1, y) :: (1, x) :: r) v n := by
  intro p e R s m args below meth c QW C hEe H locs ls hP hS hL hSt a1 a2 a3
  obtain ⟨⟨hx, hb, hml, hown, hts⟩, ⟨hKt, hZt, hB0, hB1⟩, ⟨hf1, hf2, hf3, hf4⟩, hin, hHR, hHX⟩ := id C
  obtain ⟨⟨hy, -⟩, hSt1⟩ := zStk_c.mp hSt
  obtain ⟨⟨hxx, -⟩, hSt2⟩ := zStk_c.mp hSt1
  show W p l e R s m args below meth c H locs (n - n0) (zSZ n - zSZ n0) QW (F0 m pc ls (.long (Int64.ofInt y) :: .long (Int64.ofInt x) :: r.map (zc G)))
  refine lv_ldiv hx hb hd (fun z => hne ((z64_inj (x := y) (y := 0) hy ⟨by omega, by omega⟩).mp (z.trans rfl))) ?_
  rw [z64_div hxx hy hq0]
  exact k p e R s m args below meth c QW C hEe H locs ls hP hS hL (zStk_c.mpr ⟨⟨hq0, by simp⟩, hSt2⟩) a1 a2 a3
theorem yzs_iand {Ee : yE} {l : Launch} {G : zG} {md d : Nat} {h : zHdr} {n0 : Nat} {Q : Int → zH → Prop} {QX : Nat → zH → Prop} {pc : Nat} {L r : List zV} {v : zH} {n : Nat} {x y : Int} (hd : decode (hB h) pc = .ok (.iand, 1)) (k : yJp Ee l G md d h n0 Q QX (pc + 1) L ((0, zand x y) :: r) v n) : yJp Ee l G md d h n0 Q QX pc L ((0, y) :: (0, x) :: r) v n := by
  intro p e R s m args below meth c QW C hEe H locs ls hP hS hL hSt a1 a2 a3
  obtain ⟨⟨hx, hb, hml, hown, hts⟩, ⟨hKt, hZt, hB0, hB1⟩, ⟨hf1, hf2, hf3, hf4⟩, hin, hHR, hHX⟩ := id C
  obtain ⟨⟨hy, -⟩, hSt1⟩ := zStk_c.mp hSt
  obtain ⟨⟨hxx, -⟩, hSt2⟩ := zStk_c.mp hSt1
  show W p l e R s m args below meth c H locs (n - n0) (zSZ n - zSZ n0) QW (F0 m pc ls (.int (Int32.ofInt y) :: .int (Int32.ofInt x) :: r.map (zc G)))
  refine lv_iand hx hb hd ?_
  rw [← z32_of (Int32.ofInt x &&& Int32.ofInt y)]
  exact k p e R s m args below meth c QW C hEe H locs ls hP hS hL (zStk_c.mpr ⟨⟨z32_I _, by simp⟩, hSt2⟩) a1 a2 a3
theorem yzs_ior {Ee : yE} {l : Launch} {G : zG} {md d : Nat} {h : zHdr} {n0 : Nat} {Q : Int → zH → Prop} {QX : Nat → zH → Prop} {pc : Nat} {L r : List zV} {v : zH} {n : Nat} {x y : Int} (hd : decode (hB h) pc = .ok (.ior, 1)) (k : yJp Ee l G md d h n0 Q QX (pc + 1) L ((0, zor x y) :: r) v n) : yJp Ee l G md d h n0 Q QX pc L ((0, y) :: (0, x) :: r) v n := by
  intro p e R s m args below meth c QW C hEe H locs ls hP hS hL hSt a1 a2 a3
  obtain ⟨⟨hx, hb, hml, hown, hts⟩, ⟨hKt, hZt, hB0, hB1⟩, ⟨hf1, hf2, hf3, hf4⟩, hin, hHR, hHX⟩ := id C
  obtain ⟨⟨hy, -⟩, hSt1⟩ := zStk_c.mp hSt
  obtain ⟨⟨hxx, -⟩, hSt2⟩ := zStk_c.mp hSt1
  show W p l e R s m args below meth c H locs (n - n0) (zSZ n - zSZ n0) QW (F0 m pc ls (.int (Int32.ofInt y) :: .int (Int32.ofInt x) :: r.map (zc G)))
  refine lv_ior hx hb hd ?_
  rw [← z32_of (Int32.ofInt x ||| Int32.ofInt y)]
  exact k p e R s m args below meth c QW C hEe H locs ls hP hS hL (zStk_c.mpr ⟨⟨z32_I _, by simp⟩, hSt2⟩) a1 a2 a3
theorem yzs_ixor {Ee : yE} {l : Launch} {G : zG} {md d : Nat} {h : zHdr} {n0 : Nat} {Q : Int → zH → Prop} {QX : Nat → zH → Prop} {pc : Nat} {L r : List zV} {v : zH} {n : Nat} {x y : Int} (hd : decode (hB h) pc = .ok (.ixor, 1)) (k : yJp Ee l G md d h n0 Q QX (pc + 1) L ((0, zxor x y) :: r) v n) : yJp Ee l G md d h n0 Q QX pc L ((0, y) :: (0, x) :: r) v n := by
  intro p e R s m args below meth c QW C hEe H locs ls hP hS hL hSt a1 a2 a3
  obtain ⟨⟨hx, hb, hml, hown, hts⟩, ⟨hKt, hZt, hB0, hB1⟩, ⟨hf1, hf2, hf3, hf4⟩, hin, hHR, hHX⟩ := id C
  obtain ⟨⟨hy, -⟩, hSt1⟩ := zStk_c.mp hSt
  obtain ⟨⟨hxx, -⟩, hSt2⟩ := zStk_c.mp hSt1
  show W p l e R s m args below meth c H locs (n - n0) (zSZ n - zSZ n0) QW (F0 m pc ls (.int (Int32.ofInt y) :: .int (Int32.ofInt x) :: r.map (zc G)))
  refine lv_ixor hx hb hd ?_
  rw [← z32_of (Int32.ofInt x ^^^ Int32.ofInt y)]
  exact k p e R s m args below meth c QW C hEe H locs ls hP hS hL (zStk_c.mpr ⟨⟨z32_I _, by simp⟩, hSt2⟩) a1 a2 a3
theorem yzs_ishl {Ee : yE} {l : Launch} {G : zG} {md d : Nat} {h : zHdr} {n0 : Nat} {Q : Int → zH → Prop} {QX : Nat → zH → Prop} {pc : Nat} {L r : List zV} {v : zH} {n : Nat} {x y : Int} (hd : decode (hB h) pc = .ok (.ishl, 1)) (k : yJp Ee l G md d h n0 Q QX (pc + 1) L ((0, zshl x y) :: r) v n) : yJp Ee l G md d h n0 Q QX pc L ((0, y) :: (0, x) :: r) v n := by
  intro p e R s m args below meth c QW C hEe H locs ls hP hS hL hSt a1 a2 a3
  obtain ⟨⟨hx, hb, hml, hown, hts⟩, ⟨hKt, hZt, hB0, hB1⟩, ⟨hf1, hf2, hf3, hf4⟩, hin, hHR, hHX⟩ := id C
  obtain ⟨⟨hy, -⟩, hSt1⟩ := zStk_c.mp hSt
  obtain ⟨⟨hxx, -⟩, hSt2⟩ := zStk_c.mp hSt1
  show W p l e R s m args below meth c H locs (n - n0) (zSZ n - zSZ n0) QW (F0 m pc ls (.int (Int32.ofInt y) :: .int (Int32.ofInt x) :: r.map (zc G)))
  refine lv_ishl hx hb hd ?_
  rw [← z32_of (Int32.ofInt x <<< (Int32.ofInt y &&& 31))]
  exact k p e R s m args below meth c QW C hEe H locs ls hP hS hL (zStk_c.mpr ⟨⟨z32_I _, by simp⟩, hSt2⟩) a1 a2 a3
theorem yzs_ishr {Ee : yE} {l : Launch} {G : zG} {md d : Nat} {h : zHdr} {n0 : Nat} {Q : Int → zH → Prop} {QX : Nat → zH → Prop} {pc : Nat} {L r : List zV} {v : zH} {n : Nat} {x y : Int} (hd : decode (hB h) pc = .ok (.ishr, 1)) (k : yJp Ee l G md d h n0 Q QX (pc + 1) L ((0, zshr x y) :: r) v n) : yJp Ee l G md d h n0 Q QX pc L ((0, y) :: (0, x) :: r) v n := by
  intro p e R s m args below meth c QW C hEe H locs ls hP hS hL hSt a1 a2 a3
  obtain ⟨⟨hx, hb, hml, hown, hts⟩, ⟨hKt, hZt, hB0, hB1⟩, ⟨hf1, hf2, hf3, hf4⟩, hin, hHR, hHX⟩ := id C
  obtain ⟨⟨hy, -⟩, hSt1⟩ := zStk_c.mp hSt
  obtain ⟨⟨hxx, -⟩, hSt2⟩ := zStk_c.mp hSt1
  show W p l e R s m args below meth c H locs (n - n0) (zSZ n - zSZ n0) QW (F0 m pc ls (.int (Int32.ofInt y) :: .int (Int32.ofInt x) :: r.map (zc G)))
  refine lv_ishr hx hb hd ?_
  rw [← z32_of (Int32.ofInt x >>> (Int32.ofInt y &&& 31))]
  exact k p e R s m args below meth c QW C hEe H locs ls hP hS hL (zStk_c.mpr ⟨⟨z32_I _, by simp⟩, hSt2⟩) a1 a2 a3
theorem yzs_iushr {Ee : yE} {l : Launch} {G : zG} {md d : Nat} {h : zHdr} {n0 : Nat} {Q : Int → zH → Prop} {QX : Nat → zH → Prop} {pc : Nat} {L r : List zV} {v : zH} {n : Nat} {x y : Int} (hd : decode (hB h) pc = .ok (.iushr, 1)) (k : yJp Ee l G md d h n0 Q QX (pc + 1) L ((0, zushr x y) :: r) v n) : yJp Ee l G md d h n0 Q QX pc L ((0, y) :: (0, x) :: r) v n := by
  intro p e R s m args below meth c QW C hEe H locs ls hP hS hL hSt a1 a2 a3
  obtain ⟨⟨hx, hb, hml, hown, hts⟩, ⟨hKt, hZt, hB0, hB1⟩, ⟨hf1, hf2, hf3, hf4⟩, hin, hHR, hHX⟩ := id C
  obtain ⟨⟨hy, -⟩, hSt1⟩ := zStk_c.mp hSt
  obtain ⟨⟨hxx, -⟩, hSt2⟩ := zStk_c.mp hSt1
  show W p l e R s m args below meth c H locs (n - n0) (zSZ n - zSZ n0) QW (F0 m pc ls (.int (Int32.ofInt y) :: .int (Int32.ofInt x) :: r.map (zc G)))
  refine lv_iushr (v := Int32.ofInt (zushr x y)) hx hb hd (z32_of _).symm ?_
  exact k p e R s m args below meth c QW C hEe H locs ls hP hS hL (zStk_c.mpr ⟨⟨z32_I _, by simp⟩, hSt2⟩) a1 a2 a3
theorem yzs_lcmp {Ee : yE} {l : Launch} {G : zG} {md d : Nat} {h : zHdr} {n0 : Nat} {Q : Int → zH → Prop} {QX : Nat → zH → Prop} {pc : Nat} {L r : List zV} {v : zH} {n : Nat} {x y : Int} (hd : decode (hB h) pc = .ok (.lcmp, 1)) (k : yJp Ee l G md d h n0 Q QX (pc + 1) L ((0, zcmp x y) :: r) v n) : yJp Ee l G md d h n0 Q QX pc L ((1, y) :: (1, x) :: r) v n := by
  intro p e R s m args below meth c QW C hEe H locs ls hP hS hL hSt a1 a2 a3
  obtain ⟨⟨hx, hb, hml, hown, hts⟩, ⟨hKt, hZt, hB0, hB1⟩, ⟨hf1, hf2, hf3, hf4⟩, hin, hHR, hHX⟩ := id C
  obtain ⟨⟨hy, -⟩, hSt1⟩ := zStk_c.mp hSt
  obtain ⟨⟨hxx, -⟩, hSt2⟩ := zStk_c.mp hSt1
  show W p l e R s m args below meth c H locs (n - n0) (zSZ n - zSZ n0) QW (F0 m pc ls (.long (Int64.ofInt y) :: .long (Int64.ofInt x) :: r.map (zc G)))
  refine W.lcmp hx hb hd ?_
  rw [zlcmp hxx hy]
  exact k p e R s m args below meth c QW C hEe H locs ls hP hS hL (zStk_c.mpr ⟨⟨⟨by unfold zcmp; split <;> (try split) <;> omega, by unfold zcmp; split <;> (try split) <;> omega⟩, by simp⟩, hSt2⟩) a1 a2 a3
theorem yzs_ineg {Ee : yE} {l : Launch} {G : zG} {md d : Nat} {h : zHdr} {n0 : Nat} {Q : Int → zH → Prop} {QX : Nat → zH → Prop} {pc : Nat} {L r : List zV} {v : zH} {n : Nat} {x : Int} (hd : decode (hB h) pc = .ok (.ineg, 1)) (hq0 : zI (-x)) (k : yJp Ee l G md d h n0 Q QX (pc + 1) L ((0, -x) :: r) v n) : yJp Ee l G md d h n0 Q QX pc L ((0, x) :: r) v n := by
  intro p e R s m args below meth c QW C hEe H locs ls hP hS hL hSt a1 a2 a3
  obtain ⟨⟨hx, hb, hml, hown, hts⟩, ⟨hKt, hZt, hB0, hB1⟩, ⟨hf1, hf2, hf3, hf4⟩, hin, hHR, hHX⟩ := id C
  obtain ⟨⟨hxx, -⟩, hSt2⟩ := zStk_c.mp hSt
  show W p l e R s m args below meth c H locs (n - n0) (zSZ n - zSZ n0) QW (F0 m pc ls (.int (Int32.ofInt x) :: r.map (zc G)))
  refine lv_ineg hx hb hd ?_
  rw [← Int32.ofInt_neg]
  exact k p e R s m args below meth c QW C hEe H locs ls hP hS hL (zStk_c.mpr ⟨⟨hq0, by simp⟩, hSt2⟩) a1 a2 a3
theorem yzs_i2c {Ee : yE} {l : Launch} {G : zG} {md d : Nat} {h : zHdr} {n0 : Nat} {Q : Int → zH → Prop} {QX : Nat → zH → Prop} {pc : Nat} {L r : List zV} {v : zH} {n : Nat} {x : Int} (hd : decode (hB h) pc = .ok (.i2c, 1)) (hq0 : 0 ≤ x ∧ x ≤ 65535) (k : yJp Ee l G md d h n0 Q QX (pc + 1) L ((0, x) :: r) v n) : yJp Ee l G md d h n0 Q QX pc L ((0, x) :: r) v n := by
  intro p e R s m args below meth c QW C hEe H locs ls hP hS hL hSt a1 a2 a3
  obtain ⟨⟨hx, hb, hml, hown, hts⟩, ⟨hKt, hZt, hB0, hB1⟩, ⟨hf1, hf2, hf3, hf4⟩, hin, hHR, hHX⟩ := id C
  obtain ⟨⟨hxx, -⟩, hSt2⟩ := zStk_c.mp hSt
  show W p l e R s m args below meth c H locs (n - n0) (zSZ n - zSZ n0) QW (F0 m pc ls (.int (Int32.ofInt x) :: r.map (zc G)))
  refine lv_i2c (v := Int32.ofInt x) hx hb hd (z_i2c hq0.1 hq0.2) ?_
  exact k p e R s m args below meth c QW C hEe H locs ls hP hS hL (zStk_c.mpr ⟨⟨hxx, by simp⟩, hSt2⟩) a1 a2 a3
theorem yzs_i2l {Ee : yE} {l : Launch} {G : zG} {md d : Nat} {h : zHdr} {n0 : Nat} {Q : Int → zH → Prop} {QX : Nat → zH → Prop} {pc : Nat} {L r : List zV} {v : zH} {n : Nat} {x : Int} (hd : decode (hB h) pc = .ok (.i2l, 1)) (k : yJp Ee l G md d h n0 Q QX (pc + 1) L ((1, x) :: r) v n) : yJp Ee l G md d h n0 Q QX pc L ((0, x) :: r) v n := by
  intro p e R s m args below meth c QW C hEe H locs ls hP hS hL hSt a1 a2 a3
  obtain ⟨⟨hx, hb, hml, hown, hts⟩, ⟨hKt, hZt, hB0, hB1⟩, ⟨hf1, hf2, hf3, hf4⟩, hin, hHR, hHX⟩ := id C
  obtain ⟨⟨hxx, -⟩, hSt2⟩ := zStk_c.mp hSt
  show W p l e R s m args below meth c H locs (n - n0) (zSZ n - zSZ n0) QW (F0 m pc ls (.int (Int32.ofInt x) :: r.map (zc G)))
  refine lv_i2l (v := Int64.ofInt x) hx hb hd (z_i2l hxx) ?_
  exact k p e R s m args below meth c QW C hEe H locs ls hP hS hL (zStk_c.mpr ⟨⟨⟨by have := hxx.1; omega, by have := hxx.2; omega⟩, by simp⟩, hSt2⟩) a1 a2 a3
theorem yzs_l2i {Ee : yE} {l : Launch} {G : zG} {md d : Nat} {h : zHdr} {n0 : Nat} {Q : Int → zH → Prop} {QX : Nat → zH → Prop} {pc : Nat} {L r : List zV} {v : zH} {n : Nat} {x : Int} (hd : decode (hB h) pc = .ok (.l2i, 1)) (hq0 : zI x) (k : yJp Ee l G md d h n0 Q QX (pc + 1) L ((0, x) :: r) v n) : yJp Ee l G md d h n0 Q QX pc L ((1, x) :: r) v n := by
  intro p e R s m args below meth c QW C hEe H locs ls hP hS hL hSt a1 a2 a3
  obtain ⟨⟨hx, hb, hml, hown, hts⟩, ⟨hKt, hZt, hB0, hB1⟩, ⟨hf1, hf2, hf3, hf4⟩, hin, hHR, hHX⟩ := id C
  obtain ⟨⟨hxx, -⟩, hSt2⟩ := zStk_c.mp hSt
  show W p l e R s m args below meth c H locs (n - n0) (zSZ n - zSZ n0) QW (F0 m pc ls (.long (Int64.ofInt x) :: r.map (zc G)))
  refine lv_l2i (v := Int32.ofInt x) hx hb hd (z_l2i x) ?_
  exact k p e R s m args below meth c QW C hEe H locs ls hP hS hL (zStk_c.mpr ⟨⟨hq0, by simp⟩, hSt2⟩) a1 a2 a3
theorem yzs_dup {Ee : yE} {l : Launch} {G : zG} {md d : Nat} {h : zHdr} {n0 : Nat} {Q : Int → zH → Prop} {QX : Nat → zH → Prop} {pc : Nat} {L r : List zV} {v : zH} {n : Nat} {t : Nat} {x : Int} (hd : decode (hB h) pc = .ok (.dup, 1)) (ht : t ≠ 1) (k : yJp Ee l G md d h n0 Q QX (pc + 1) L ((t, x) :: (t, x) :: r) v n) : yJp Ee l G md d h n0 Q QX pc L ((t, x) :: r) v n := by
  intro p e R s m args below meth c QW C hEe H locs ls hP hS hL hSt a1 a2 a3
  obtain ⟨⟨hx, hb, hml, hown, hts⟩, ⟨hKt, hZt, hB0, hB1⟩, ⟨hf1, hf2, hf3, hf4⟩, hin, hHR, hHX⟩ := id C
  show W p l e R s m args below meth c H locs (n - n0) (zSZ n - zSZ n0) QW (F0 m pc ls (zc G (t, x) :: r.map (zc G)))
  refine lv_dup hx hb hd (zcat1 ht) ?_
  exact k p e R s m args below meth c QW C hEe H locs ls hP hS hL (zStk_c.mpr ⟨(zStk_c.mp hSt).1, hSt⟩) a1 a2 a3
theorem yzs_dup2 {Ee : yE} {l : Launch} {G : zG} {md d : Nat} {h : zHdr} {n0 : Nat} {Q : Int → zH → Prop} {QX : Nat → zH → Prop} {pc : Nat} {L r : List zV} {v : zH} {n : Nat} {x y : Int} (hd : decode (hB h) pc = .ok (.dup2, 1)) (k : yJp Ee l G md d h n0 Q QX (pc + 1) L ((0, x) :: (2, y) :: (0, x) :: (2, y) :: r) v n) : yJp Ee l G md d h n0 Q QX pc L ((0, x) :: (2, y) :: r) v n := by
  intro p e R s m args below meth c QW C hEe H locs ls hP hS hL hSt a1 a2 a3
  obtain ⟨⟨hx, hb, hml, hown, hts⟩, ⟨hKt, hZt, hB0, hB1⟩, ⟨hf1, hf2, hf3, hf4⟩, hin, hHR, hHX⟩ := id C
  show W p l e R s m args below meth c H locs (n - n0) (zSZ n - zSZ n0) QW (F0 m pc ls (zc G (0, x) :: zc G (2, y) :: r.map (zc G)))
  refine lv_dup2_11 hx hb hd (zcat1 (by decide)) (zcat1 (by decide)) ?_
  exact k p e R s m args below meth c QW C hEe H locs ls hP hS hL (zStk_c.mpr ⟨(zStk_c.mp hSt).1, zStk_c.mpr ⟨(zStk_c.mp (zStk_c.mp hSt).2).1, hSt⟩⟩) a1 a2 a3
theorem yzs_pop {Ee : yE} {l : Launch} {G : zG} {md d : Nat} {h : zHdr} {n0 : Nat} {Q : Int → zH → Prop} {QX : Nat → zH → Prop} {pc : Nat} {L r : List zV} {v : zH} {n : Nat} {x : Int} (hd : decode (hB h) pc = .ok (.pop, 1)) (k : yJp Ee l G md d h n0 Q QX (pc + 1) L r v n) : yJp Ee l G md d h n0 Q QX pc L ((0, x) :: r) v n := by
  intro p e R s m args below meth c QW C hEe H locs ls hP hS hL hSt a1 a2 a3
  obtain ⟨⟨hx, hb, hml, hown, hts⟩, ⟨hKt, hZt, hB0, hB1⟩, ⟨hf1, hf2, hf3, hf4⟩, hin, hHR, hHX⟩ := id C
  show W p l e R s m args below meth c H locs (n - n0) (zSZ n - zSZ n0) QW (F0 m pc ls (zc G (0, x) :: r.map (zc G)))
  refine lv_pop hx hb hd (zcat1 (by decide)) ?_
  exact k p e R s m args below meth c QW C hEe H locs ls hP hS hL (zStk_c.mp hSt).2 a1 a2 a3
theorem yzs_icmp_eq {Ee : yE} {l : Launch} {G : zG} {md d : Nat} {h : zHdr} {n0 : Nat} {Q : Int → zH → Prop} {QX : Nat → zH → Prop} {pc : Nat} {L r : List zV} {v : zH} {n : Nat} {x y : Int} {off : Int} {tgt : Nat} (hd : decode (hB h) pc = .ok (.if_icmp .eq off, 3)) (ht : (pc : Int) + off = (tgt : Int)) (kt : x = y → yJp Ee l G md d h n0 Q QX tgt L r v n) (kf : ¬ x = y → yJp Ee l G md d h n0 Q QX (pc + 3) L r v n) : yJp Ee l G md d h n0 Q QX pc L ((0, y) :: (0, x) :: r) v n := by
  intro p e R s m args below meth c QW C hEe H locs ls hP hS hL hSt a1 a2 a3
  obtain ⟨⟨hx, hb, hml, hown, hts⟩, ⟨hKt, hZt, hB0, hB1⟩, ⟨hf1, hf2, hf3, hf4⟩, hin, hHR, hHX⟩ := id C
  obtain ⟨⟨hy, -⟩, hSt1⟩ := zStk_c.mp hSt
  obtain ⟨⟨hxx, -⟩, hSt2⟩ := zStk_c.mp hSt1
  show W p l e R s m args below meth c H locs (n - n0) (zSZ n - zSZ n0) QW (F0 m pc ls (.int (Int32.ofInt y) :: .int (Int32.ofInt x) :: r.map (zc G)))
  refine lv_icmp_eq hx hb hd ht (fun hh => ?_) (fun hh => ?_)
  · exact kt ((z32_inj hxx hy).mp hh) p e R s m args below meth c QW C hEe H locs ls hP hS hL hSt2 a1 a2 a3
  · exact kf (fun q => hh ((z32_inj hxx hy).mpr q)) p e R s m args below meth c QW C hEe H locs ls hP hS hL hSt2 a1 a2 a3
theorem yzs_icmp_ne {Ee : yE} {l : Launch} {G : zG} {md d : Nat} {h : zHdr} {n0 : Nat} {Q : Int → zH → Prop} {QX : Nat → zH → Prop} {pc : Nat} {L r : List zV} {v : zH} {n : Nat} {x y : Int} {off : Int} {tgt : Nat} (hd : decode (hB h) pc = .ok (.if_icmp .ne off, 3)) (ht : (pc : Int) + off = (tgt : Int)) (kt : ¬ x = y → yJp Ee l G md d h n0 Q QX tgt L r v n) (kf : x = y → yJp Ee l G md d h n0 Q QX (pc + 3) L r v n) : yJp Ee l G md d h n0 Q QX pc L ((0, y) :: (0, x) :: r) v n := by
  intro p e R s m args below meth c QW C hEe H locs ls hP hS hL hSt a1 a2 a3
  obtain ⟨⟨hx, hb, hml, hown, hts⟩, ⟨hKt, hZt, hB0, hB1⟩, ⟨hf1, hf2, hf3, hf4⟩, hin, hHR, hHX⟩ := id C
  obtain ⟨⟨hy, -⟩, hSt1⟩ := zStk_c.mp hSt
  obtain ⟨⟨hxx, -⟩, hSt2⟩ := zStk_c.mp hSt1
  show W p l e R s m args below meth c H locs (n - n0) (zSZ n - zSZ n0) QW (F0 m pc ls (.int (Int32.ofInt y) :: .int (Int32.ofInt x) :: r.map (zc G)))
  refine lv_icmp_ne hx hb hd ht (fun hh => ?_) (fun hh => ?_)
  · exact kt (fun q => hh ((z32_inj hxx hy).mpr q)) p e R s m args below meth c QW C hEe H locs ls hP hS hL hSt2 a1 a2 a3
  · exact kf (by first | exact (z32_inj hxx hy).mp hh | exact (z32_inj hxx hy).mp (Classical.not_not.mp hh)) p e R s m args below meth c QW C hEe H locs ls hP hS hL hSt2 a1 a2 a3
theorem yzs_icmp_lt {Ee : yE} {l : Launch} {G : zG} {md d : Nat} {h : zHdr} {n0 : Nat} {Q : Int → zH → Prop} {QX : Nat → zH → Prop} {pc : Nat} {L r : List zV} {v : zH} {n : Nat} {x y : Int} {off : Int} {tgt : Nat} (hd : decode (hB h) pc = .ok (.if_icmp .lt off, 3)) (ht : (pc : Int) + off = (tgt : Int)) (kt : x < y → yJp Ee l G md d h n0 Q QX tgt L r v n) (kf : y ≤ x → yJp Ee l G md d h n0 Q QX (pc + 3) L r v n) : yJp Ee l G md d h n0 Q QX pc L ((0, y) :: (0, x) :: r) v n := by
  intro p e R s m args below meth c QW C hEe H locs ls hP hS hL hSt a1 a2 a3
  obtain ⟨⟨hx, hb, hml, hown, hts⟩, ⟨hKt, hZt, hB0, hB1⟩, ⟨hf1, hf2, hf3, hf4⟩, hin, hHR, hHX⟩ := id C
  obtain ⟨⟨hy, -⟩, hSt1⟩ := zStk_c.mp hSt
  obtain ⟨⟨hxx, -⟩, hSt2⟩ := zStk_c.mp hSt1
  show W p l e R s m args below meth c H locs (n - n0) (zSZ n - zSZ n0) QW (F0 m pc ls (.int (Int32.ofInt y) :: .int (Int32.ofInt x) :: r.map (zc G)))
  refine lv_icmp_lt hx hb hd ht (fun hh => ?_) (fun hh => ?_)
  · exact kt ((z32_lt hxx hy).mp hh) p e R s m args below meth c QW C hEe H locs ls hP hS hL hSt2 a1 a2 a3
  · exact kf (Int.not_lt.mp (fun z => hh ((z32_lt hxx hy).mpr z))) p e R s m args below meth c QW C hEe H locs ls hP hS hL hSt2 a1 a2 a3
theorem yzs_icmp_ge {Ee : yE} {l : Launch} {G : zG} {md d : Nat} {h : zHdr} {n0 : Nat} {Q : Int → zH → Prop} {QX : Nat → zH → Prop} {pc : Nat} {L r : List zV} {v : zH} {n : Nat} {x y : Int} {off : Int} {tgt : Nat} (hd : decode (hB h) pc = .ok (.if_icmp .ge off, 3)) (ht : (pc : Int) + off = (tgt : Int)) (kt : y ≤ x → yJp Ee l G md d h n0 Q QX tgt L r v n) (kf : x < y → yJp Ee l G md d h n0 Q QX (pc + 3) L r v n) : yJp Ee l G md d h n0 Q QX pc L ((0, y) :: (0, x) :: r) v n := by
  intro p e R s m args below meth c QW C hEe H locs ls hP hS hL hSt a1 a2 a3
  obtain ⟨⟨hx, hb, hml, hown, hts⟩, ⟨hKt, hZt, hB0, hB1⟩, ⟨hf1, hf2, hf3, hf4⟩, hin, hHR, hHX⟩ := id C
  obtain ⟨⟨hy, -⟩, hSt1⟩ := zStk_c.mp hSt
  obtain ⟨⟨hxx, -⟩, hSt2⟩ := zStk_c.mp hSt1
  show W p l e R s m args below meth c H locs (n - n0) (zSZ n - zSZ n0) QW (F0 m pc ls (.int (Int32.ofInt y) :: .int (Int32.ofInt x) :: r.map (zc G)))
  refine lv_icmp_ge hx hb hd ht (fun hh => ?_) (fun hh => ?_)
  · exact kt ((z32_le hy hxx).mp hh) p e R s m args below meth c QW C hEe H locs ls hP hS hL hSt2 a1 a2 a3
  · exact kf (Int.not_le.mp (fun z => hh ((z32_le hy hxx).mpr z))) p e R s m args below meth c QW C hEe H locs ls hP hS hL hSt2 a1 a2 a3
theorem yzs_icmp_gt {Ee : yE} {l : Launch} {G : zG} {md d : Nat} {h : zHdr} {n0 : Nat} {Q : Int → zH → Prop} {QX : Nat → zH → Prop} {pc : Nat} {L r : List zV} {v : zH} {n : Nat} {x y : Int} {off : Int} {tgt : Nat} (hd : decode (hB h) pc = .ok (.if_icmp .gt off, 3)) (ht : (pc : Int) + off = (tgt : Int)) (kt : y < x → yJp Ee l G md d h n0 Q QX tgt L r v n) (kf : x ≤ y → yJp Ee l G md d h n0 Q QX (pc + 3) L r v n) : yJp Ee l G md d h n0 Q QX pc L ((0, y) :: (0, x) :: r) v n := by
  intro p e R s m args below meth c QW C hEe H locs ls hP hS hL hSt a1 a2 a3
  obtain ⟨⟨hx, hb, hml, hown, hts⟩, ⟨hKt, hZt, hB0, hB1⟩, ⟨hf1, hf2, hf3, hf4⟩, hin, hHR, hHX⟩ := id C
  obtain ⟨⟨hy, -⟩, hSt1⟩ := zStk_c.mp hSt
  obtain ⟨⟨hxx, -⟩, hSt2⟩ := zStk_c.mp hSt1
  show W p l e R s m args below meth c H locs (n - n0) (zSZ n - zSZ n0) QW (F0 m pc ls (.int (Int32.ofInt y) :: .int (Int32.ofInt x) :: r.map (zc G)))
  refine lv_icmp_gt hx hb hd ht (fun hh => ?_) (fun hh => ?_)
  · exact kt ((z32_lt hy hxx).mp hh) p e R s m args below meth c QW C hEe H locs ls hP hS hL hSt2 a1 a2 a3
  · exact kf (Int.not_lt.mp (fun z => hh ((z32_lt hy hxx).mpr z))) p e R s m args below meth c QW C hEe H locs ls hP hS hL hSt2 a1 a2 a3
theorem yzs_icmp_le {Ee : yE} {l : Launch} {G : zG} {md d : Nat} {h : zHdr} {n0 : Nat} {Q : Int → zH → Prop} {QX : Nat → zH → Prop} {pc : Nat} {L r : List zV} {v : zH} {n : Nat} {x y : Int} {off : Int} {tgt : Nat} (hd : decode (hB h) pc = .ok (.if_icmp .le off, 3)) (ht : (pc : Int) + off = (tgt : Int)) (kt : x ≤ y → yJp Ee l G md d h n0 Q QX tgt L r v n) (kf : y < x → yJp Ee l G md d h n0 Q QX (pc + 3) L r v n) : yJp Ee l G md d h n0 Q QX pc L ((0, y) :: (0, x) :: r) v n := by
  intro p e R s m args below meth c QW C hEe H locs ls hP hS hL hSt a1 a2 a3
  obtain ⟨⟨hx, hb, hml, hown, hts⟩, ⟨hKt, hZt, hB0, hB1⟩, ⟨hf1, hf2, hf3, hf4⟩, hin, hHR, hHX⟩ := id C
  obtain ⟨⟨hy, -⟩, hSt1⟩ := zStk_c.mp hSt
  obtain ⟨⟨hxx, -⟩, hSt2⟩ := zStk_c.mp hSt1
  show W p l e R s m args below meth c H locs (n - n0) (zSZ n - zSZ n0) QW (F0 m pc ls (.int (Int32.ofInt y) :: .int (Int32.ofInt x) :: r.map (zc G)))
  refine lv_icmp_le hx hb hd ht (fun hh => ?_) (fun hh => ?_)
  · exact kt ((z32_le hxx hy).mp hh) p e R s m args below meth c QW C hEe H locs ls hP hS hL hSt2 a1 a2 a3
  · exact kf (Int.not_le.mp (fun z => hh ((z32_le hxx hy).mpr z))) p e R s m args below meth c QW C hEe H locs ls hP hS hL hSt2 a1 a2 a3
theorem yzs_if_eq {Ee : yE} {l : Launch} {G : zG} {md d : Nat} {h : zHdr} {n0 : Nat} {Q : Int → zH → Prop} {QX : Nat → zH → Prop} {pc : Nat} {L r : List zV} {v : zH} {n : Nat} {x : Int} {off : Int} {tgt : Nat} (hd : decode (hB h) pc = .ok (.ifCond .eq off, 3)) (ht : (pc : Int) + off = (tgt : Int)) (kt : x = 0 → yJp Ee l G md d h n0 Q QX tgt L r v n) (kf : ¬ x = 0 → yJp Ee l G md d h n0 Q QX (pc + 3) L r v n) : yJp Ee l G md d h n0 Q QX pc L ((0, x) :: r) v n := by
  intro p e R s m args below meth c QW C hEe H locs ls hP hS hL hSt a1 a2 a3
  obtain ⟨⟨hx, hb, hml, hown, hts⟩, ⟨hKt, hZt, hB0, hB1⟩, ⟨hf1, hf2, hf3, hf4⟩, hin, hHR, hHX⟩ := id C
  obtain ⟨⟨hxx, -⟩, hSt2⟩ := zStk_c.mp hSt
  show W p l e R s m args below meth c H locs (n - n0) (zSZ n - zSZ n0) QW (F0 m pc ls (.int (Int32.ofInt x) :: r.map (zc G)))
  refine lv_if_eq hx hb hd ht (fun hh => ?_) (fun hh => ?_)
  · exact kt ((z32_0 hxx).mp hh) p e R s m args below meth c QW C hEe H locs ls hP hS hL hSt2 a1 a2 a3
  · exact kf (fun q => hh ((z32_0 hxx).mpr q)) p e R s m args below meth c QW C hEe H locs ls hP hS hL hSt2 a1 a2 a3
theorem yzs_if_ne {Ee : yE} {l : Launch} {G : zG} {md d : Nat} {h : zHdr} {n0 : Nat} {Q : Int → zH → Prop} {QX : Nat → zH → Prop} {pc : Nat} {L r : List zV} {v : zH} {n : Nat} {x : Int} {off : Int} {tgt : Nat} (hd : decode (hB h) pc = .ok (.ifCond .ne off, 3)) (ht : (pc : Int) + off = (tgt : Int)) (kt : ¬ x = 0 → yJp Ee l G md d h n0 Q QX tgt L r v n) (kf : x = 0 → yJp Ee l G md d h n0 Q QX (pc + 3) L r v n) : yJp Ee l G md d h n0 Q QX pc L ((0, x) :: r) v n := by
  intro p e R s m args below meth c QW C hEe H locs ls hP hS hL hSt a1 a2 a3
  obtain ⟨⟨hx, hb, hml, hown, hts⟩, ⟨hKt, hZt, hB0, hB1⟩, ⟨hf1, hf2, hf3, hf4⟩, hin, hHR, hHX⟩ := id C
  obtain ⟨⟨hxx, -⟩, hSt2⟩ := zStk_c.mp hSt
  show W p l e R s m args below meth c H locs (n - n0) (zSZ n - zSZ n0) QW (F0 m pc ls (.int (Int32.ofInt x) :: r.map (zc G)))
  refine lv_if_ne hx hb hd ht (fun hh => ?_) (fun hh => ?_)
  · exact kt (fun q => hh ((z32_0 hxx).mpr q)) p e R s m args below meth c QW C hEe H locs ls hP hS hL hSt2 a1 a2 a3
  · exact kf (by first | exact (z32_0 hxx).mp hh | exact (z32_0 hxx).mp (Classical.not_not.mp hh)) p e R s m args below meth c QW C hEe H locs ls hP hS hL hSt2 a1 a2 a3
theorem yzs_if_lt {Ee : yE} {l : Launch} {G : zG} {md d : Nat} {h : zHdr} {n0 : Nat} {Q : Int → zH → Prop} {QX : Nat → zH → Prop} {pc : Nat} {L r : List zV} {v : zH} {n : Nat} {x : Int} {off : Int} {tgt : Nat} (hd : decode (hB h) pc = .ok (.ifCond .lt off, 3)) (ht : (pc : Int) + off = (tgt : Int)) (kt : x < 0 → yJp Ee l G md d h n0 Q QX tgt L r v n) (kf : 0 ≤ x → yJp Ee l G md d h n0 Q QX (pc + 3) L r v n) : yJp Ee l G md d h n0 Q QX pc L ((0, x) :: r) v n := by
  intro p e R s m args below meth c QW C hEe H locs ls hP hS hL hSt a1 a2 a3
  obtain ⟨⟨hx, hb, hml, hown, hts⟩, ⟨hKt, hZt, hB0, hB1⟩, ⟨hf1, hf2, hf3, hf4⟩, hin, hHR, hHX⟩ := id C
  obtain ⟨⟨hxx, -⟩, hSt2⟩ := zStk_c.mp hSt
  show W p l e R s m args below meth c H locs (n - n0) (zSZ n - zSZ n0) QW (F0 m pc ls (.int (Int32.ofInt x) :: r.map (zc G)))
  refine lv_if_lt hx hb hd ht (fun hh => ?_) (fun hh => ?_)
  · exact kt ((z32_lt0 hxx).mp hh) p e R s m args below meth c QW C hEe H locs ls hP hS hL hSt2 a1 a2 a3
  · exact kf (Int.not_lt.mp (fun z => hh ((z32_lt0 hxx).mpr z))) p e R s m args below meth c QW C hEe H locs ls hP hS hL hSt2 a1 a2 a3
theorem yzs_if_ge {Ee : yE} {l : Launch} {G : zG} {md d : Nat} {h : zHdr} {n0 : Nat} {Q : Int → zH → Prop} {QX : Nat → zH → Prop} {pc : Nat} {L r : List zV} {v : zH} {n : Nat} {x : Int} {off : Int} {tgt : Nat} (hd : decode (hB h) pc = .ok (.ifCond .ge off, 3)) (ht : (pc : Int) + off = (tgt : Int)) (kt : 0 ≤ x → yJp Ee l G md d h n0 Q QX tgt L r v n) (kf : x < 0 → yJp Ee l G md d h n0 Q QX (pc + 3) L r v n) : yJp Ee l G md d h n0 Q QX pc L ((0, x) :: r) v n := by
  intro p e R s m args below meth c QW C hEe H locs ls hP hS hL hSt a1 a2 a3
  obtain ⟨⟨hx, hb, hml, hown, hts⟩, ⟨hKt, hZt, hB0, hB1⟩, ⟨hf1, hf2, hf3, hf4⟩, hin, hHR, hHX⟩ := id C
  obtain ⟨⟨hxx, -⟩, hSt2⟩ := zStk_c.mp hSt
  show W p l e R s m args below meth c H locs (n - n0) (zSZ n - zSZ n0) QW (F0 m pc ls (.int (Int32.ofInt x) :: r.map (zc G)))
  refine lv_if_ge hx hb hd ht (fun hh => ?_) (fun hh => ?_)
  · exact kt ((z32_ge0 hxx).mp hh) p e R s m args below meth c QW C hEe H locs ls hP hS hL hSt2 a1 a2 a3
  · exact kf (Int.not_le.mp (fun z => hh ((z32_ge0 hxx).mpr z))) p e R s m args below meth c QW C hEe H locs ls hP hS hL hSt2 a1 a2 a3
theorem yzs_if_gt {Ee : yE} {l : Launch} {G : zG} {md d : Nat} {h : zHdr} {n0 : Nat} {Q : Int → zH → Prop} {QX : Nat → zH → Prop} {pc : Nat} {L r : List zV} {v : zH} {n : Nat} {x : Int} {off : Int} {tgt : Nat} (hd : decode (hB h) pc = .ok (.ifCond .gt off, 3)) (ht : (pc : Int) + off = (tgt : Int)) (kt : 0 < x → yJp Ee l G md d h n0 Q QX tgt L r v n) (kf : x ≤ 0 → yJp Ee l G md d h n0 Q QX (pc + 3) L r v n) : yJp Ee l G md d h n0 Q QX pc L ((0, x) :: r) v n := by
  intro p e R s m args below meth c QW C hEe H locs ls hP hS hL hSt a1 a2 a3
  obtain ⟨⟨hx, hb, hml, hown, hts⟩, ⟨hKt, hZt, hB0, hB1⟩, ⟨hf1, hf2, hf3, hf4⟩, hin, hHR, hHX⟩ := id C
  obtain ⟨⟨hxx, -⟩, hSt2⟩ := zStk_c.mp hSt
  show W p l e R s m args below meth c H locs (n - n0) (zSZ n - zSZ n0) QW (F0 m pc ls (.int (Int32.ofInt x) :: r.map (zc G)))
  refine lv_if_gt hx hb hd ht (fun hh => ?_) (fun hh => ?_)
  · exact kt ((z32_gt0 hxx).mp hh) p e R s m args below meth c QW C hEe H locs ls hP hS hL hSt2 a1 a2 a3
  · exact kf (Int.not_lt.mp (fun z => hh ((z32_gt0 hxx).mpr z))) p e R s m args below meth c QW C hEe H locs ls hP hS hL hSt2 a1 a2 a3
theorem yzs_if_le {Ee : yE} {l : Launch} {G : zG} {md d : Nat} {h : zHdr} {n0 : Nat} {Q : Int → zH → Prop} {QX : Nat → zH → Prop} {pc : Nat} {L r : List zV} {v : zH} {n : Nat} {x : Int} {off : Int} {tgt : Nat} (hd : decode (hB h) pc = .ok (.ifCond .le off, 3)) (ht : (pc : Int) + off = (tgt : Int)) (kt : x ≤ 0 → yJp Ee l G md d h n0 Q QX tgt L r v n) (kf : 0 < x → yJp Ee l G md d h n0 Q QX (pc + 3) L r v n) : yJp Ee l G md d h n0 Q QX pc L ((0, x) :: r) v n := by
  intro p e R s m args below meth c QW C hEe H locs ls hP hS hL hSt a1 a2 a3
  obtain ⟨⟨hx, hb, hml, hown, hts⟩, ⟨hKt, hZt, hB0, hB1⟩, ⟨hf1, hf2, hf3, hf4⟩, hin, hHR, hHX⟩ := id C
  obtain ⟨⟨hxx, -⟩, hSt2⟩ := zStk_c.mp hSt
  show W p l e R s m args below meth c H locs (n - n0) (zSZ n - zSZ n0) QW (F0 m pc ls (.int (Int32.ofInt x) :: r.map (zc G)))
  refine lv_if_le hx hb hd ht (fun hh => ?_) (fun hh => ?_)
  · exact kt ((z32_le0 hxx).mp hh) p e R s m args below meth c QW C hEe H locs ls hP hS hL hSt2 a1 a2 a3
  · exact kf (Int.not_le.mp (fun z => hh ((z32_le0 hxx).mpr z))) p e R s m args below meth c QW C hEe H locs ls hP hS hL hSt2 a1 a2 a3
theorem yzs_goto {Ee : yE} {l : Launch} {G : zG} {md d : Nat} {h : zHdr} {n0 : Nat} {Q : Int → zH → Prop} {QX : Nat → zH → Prop} {pc : Nat} {L st : List zV} {v : zH} {n : Nat} {off : Int} {tgt : Nat} (hd : decode (hB h) pc = .ok (.goto off, 3)) (ht : (pc : Int) + off = (tgt : Int)) (k : yJp Ee l G md d h n0 Q QX tgt L st v n) : yJp Ee l G md d h n0 Q QX pc L st v n := by
  intro p e R s m args below meth c QW C hEe H locs ls hP hS hL hSt a1 a2 a3
  obtain ⟨⟨hx, hb, hml, hown, hts⟩, ⟨hKt, hZt, hB0, hB1⟩, ⟨hf1, hf2, hf3, hf4⟩, hin, hHR, hHX⟩ := id C
  exact lv_goto hx hb hd ht (k p e R s m args below meth c QW C hEe H locs ls hP hS hL hSt a1 a2 a3)

