/-! the same rows over contexts of which more is known -/
theorem yzs_getf {Ee : yE} {l : Launch} {G : zG} {md d : Nat} {h : zHdr} {n0 : Nat} {Q : Int → zH → Prop} {QX : Nat → zH → Prop} {pc : Nat} {L r : List zV} {v : zH} {n : Nat} {idx ci k : Nat} {o x : Int} {t : Nat} (hd : decode (hB h) pc = .ok (.getfield idx, 3)) {ws : List Nat} (hf : zfld (hO h) idx ci k ws = true) (hcl : zCL o = ci) (ht : zFT ci k = t) (hv : ∀ i : Nat, o = i → zfv md v i k = x) (ht3 : t = 0 ∨ t = 2) (hx0 : ¬ x = -1000 ∨ t = 0)
    (kk : yJp Ee l G md d h n0 Q QX (pc + 3) L ((t, x) :: r) v n) : yJp Ee l G md d h n0 Q QX pc L ((2, o) :: r) v n := by
  intro p e R s m args below meth c QW C hEe H locs ls hP hS hL hSt a1 a2 a3
  obtain ⟨⟨hx, hb, hml, hown, hts⟩, ⟨hKt, hZt, hB0, hB1⟩, ⟨hf1, hf2, hf3, hf4⟩, hin, hHR, hHX⟩ := id C
  obtain ⟨⟨hor, -⟩, hSt1⟩ := zStk_c.mp hSt
  obtain ⟨h12, hk, ref, hlink, hsame⟩ := zfld_ok hf
  obtain ⟨i, rfl, hi, hci⟩ := zcell hor hcl (by omega)
  have hkN : k < zNF ci := by rw [zNF_ok ci h12]; exact hk
  show W p l e R s m args below meth c H locs (n - n0) (zSZ n - zSZ n0) QW (F0 m pc ls (zc G (2, (i : Int)) :: r.map (zc G)))
  rw [zc_ref (by omega), zad_n]
  have hok := zcl_ok ci (zcr ci) (zcr_get h12)
  refine va_get (D := zgD G) (ci := ci) (C := (zcr ci).1) (T := (zcr ci).2.1) (N := (zcr ci).2.2) hx hb hts hok.1 hown hKt hP.1 i (by rw [zW_get hi, zE_o hci h12]) (zcr_get h12) k hk (hts _ hlink) (hsame s args hts) (zfs_get hkN) hd ?_
  have hv1 := hv i rfl
  rw [hv1, ht]
  refine kk p e R s m args below meth c QW C hEe H locs ls hP hS hL (zStk_c.mpr ⟨⟨?_, by rcases ht3 with q | q <;> rw [q] <;> simp⟩, hSt1⟩) a1 a2 a3
  have h7 := hP.2.2 i hi k
  rw [hv1] at h7
  have h8 : zTg (i : Int) k = t := by
    unfold zTg
    rw [hci, if_neg (by omega), if_neg (by omega), if_neg (by omega), ht]
  rw [h8] at h7
  rcases h7 with ⟨q1, q2⟩ | h7
  · rcases hx0 with q | q
    · exact absurd q2 q
    · omega
  · exact h7
theorem yzs_putf {Ee : yE} {l : Launch} {G : zG} {md d : Nat} {h : zHdr} {n0 : Nat} {Q : Int → zH → Prop} {QX : Nat → zH → Prop} {pc : Nat} {L r : List zV} {v : zH} {n : Nat} {idx ci k : Nat} {o x : Int} {t : Nat} (hd : decode (hB h) pc = .ok (.putfield idx, 3)) {ws : List Nat} (hf : zfld (hO h) idx ci k ws = true) (hcl : zCL o = ci) (ht : zFT ci k = t)
    (hft : zfk ci k = 0 ∧ t = 0 ∨ zfk ci k = 4 ∧ t = 0 ∧ (x = 0 ∨ x = 1) ∨ zfk ci k = 2 ∧ t = 2) (hfn : zfin ci k = false ∨ zfin ci k = true ∧ hK h = true ∧ ((zcr ci).2.1 k).1 = hO h) (hnf : ¬ (md = 1 ∧ (zFn ci k).1 ≠ 0))
    (kk : yJp Ee l G md d h n0 Q QX (pc + 3) L r (zupd v o k x) n) : yJp Ee l G md d h n0 Q QX pc L ((t, x) :: (2, o) :: r) v n := by
  intro p e R s m args below meth c QW C hEe H locs ls hP hS hL hSt a1 a2 a3
  obtain ⟨⟨hx, hb, hml, hown, hts⟩, ⟨hKt, hZt, hB0, hB1⟩, ⟨hf1, hf2, hf3, hf4⟩, hin, hHR, hHX⟩ := id C
  obtain ⟨⟨hxr, -⟩, hSt0⟩ := zStk_c.mp hSt
  obtain ⟨⟨hor, -⟩, hSt1⟩ := zStk_c.mp hSt0
  obtain ⟨h12, hk, ref, hlink, hsame⟩ := zfld_ok hf
  obtain ⟨i, rfl, hi, hci⟩ := zcell hor hcl (by omega)
  have hkN : k < zNF ci := by rw [zNF_ok ci h12]; exact hk
  show W p l e R s m args below meth c H locs (n - n0) (zSZ n - zSZ n0) QW (F0 m pc ls (zc G (t, x) :: zc G (2, (i : Int)) :: r.map (zc G)))
  rw [zc_ref (by omega), zad_n]
  obtain ⟨hok1, ⟨ty0, hty0⟩, hnm⟩ := zcl_ok ci (zcr ci) (zcr_get h12)
  obtain ⟨ty, hd1, hd2, hd3⟩ := zty (G := G) hft
  have he : (zW G md v n)[i]? = some (zgB G + i, .inr (ci, (List.range (zNF ci)).map (fun k => zc G (zFT ci k, zfv md v i k)))) := by rw [zW_get hi, zE_o hci h12]
  have hset : (zW G md v n).set i (zgB G + i, .inr (ci, ((List.range (zNF ci)).map (fun k => zc G (zFT ci k, zfv md v i k))).set k (zc G (t, x)))) = zW G md (zupd v i k x) n := by
    refine zW_set hi ?_ (fun j _ hji => zE_ne (by omega))
    rw [zE_o hci h12, ← ht, zfields_set hci hkN hnf]
  have hxn : zRn n (zTg i k) x := by
    have h8 : zTg (i : Int) k = t := by
      unfold zTg
      rw [hci, if_neg (by omega), if_neg (by omega), if_neg (by omega), ht]
    rw [h8]
    exact Or.inr hxr
  rcases hfn with hfn | ⟨hfn, hKK, hdecl⟩
  · refine va_put (D := zgD G) (ci := ci) (C := (zcr ci).1) (T := (zcr ci).2.1) (N := (zcr ci).2.2) hx hb hts hok1 ty0 hty0 hnm hown hKt hP.1 zW_D hS i he (zcr_get h12) k hk (hts _ hlink) (hsame s args hts) hfn hd1 hd2 hd3 (by simpa using hkN) hd (fun H1 locs1 q1 q2 q3 => ?_)
    rw [hset] at q1
    exact kk p e R s m args below meth c QW C hEe H1 locs1 ls (zput_ok hP hi hxn q1) q3 hL hSt1 a1 a2 a3
  · refine va_putF (D := zgD G) (ci := ci) (C := (zcr ci).1) (T := (zcr ci).2.1) (N := (zcr ci).2.2) hx hb hts hok1 ty0 hty0 hnm hown hKt hP.1 zW_D hS i he (zcr_get h12) k hk (hts _ hlink) (hsame s args hts) hfn (hin hKK) hdecl hd1 hd2 hd3 (by simpa using hkN) hd (fun H1 locs1 q1 q2 q3 => ?_)
    rw [hset] at q1
    exact kk p e R s m args below meth c QW C hEe H1 locs1 ls (zput_ok hP hi hxn q1) q3 hL hSt1 a1 a2 a3
theorem yzs_iald {Ee : yE} {l : Launch} {G : zG} {md d : Nat} {h : zHdr} {n0 : Nat} {Q : Int → zH → Prop} {QX : Nat → zH → Prop} {pc : Nat} {L r : List zV} {v : zH} {n : Nat} {a j : Int} (hd : decode (hB h) pc = .ok (.iaload, 1)) (hcl : zCL a = 20) (hj : 0 ≤ j ∧ j < zLN a) (kk : yJp Ee l G md d h n0 Q QX (pc + 1) L ((0, v a j) :: r) v n) : yJp Ee l G md d h n0 Q QX pc L ((0, j) :: (2, a) :: r) v n := by
  intro p e R s m args below meth c QW C hEe H locs ls hP hS hL hSt a1 a2 a3
  obtain ⟨⟨hx, hb, hml, hown, hts⟩, ⟨hKt, hZt, hB0, hB1⟩, ⟨hf1, hf2, hf3, hf4⟩, hin, hHR, hHX⟩ := id C
  obtain ⟨⟨hjr, -⟩, hSt0⟩ := zStk_c.mp hSt
  obtain ⟨⟨hor, -⟩, hSt1⟩ := zStk_c.mp hSt0
  obtain ⟨i, rfl, hi, hci⟩ := zcell hor hcl (by omega)
  show W p l e R s m args below meth c H locs (n - n0) (zSZ n - zSZ n0) QW (F0 m pc ls (.int (Int32.ofInt j) :: zc G (2, (i : Int)) :: r.map (zc G)))
  rw [zc_ref (by omega), zad_n]
  have hrg := zrow_rg hP.2.2 hi (by omega) hj.1 (fun k => zTg20 (k := k) hci)
  refine va_iald hx hb hKt hP.1 i 0 (by rw [zW_get hi, zE_20 hci]) rfl (z_inA hj hjr) hd ?_
  have e1 := z_idx hj.1 hjr
  rw [e1]
  refine kk p e R s m args below meth c QW C hEe H locs ls hP hS hL (zStk_c.mpr ⟨⟨?_, by simp⟩, hSt1⟩) a1 a2 a3
  rcases hrg with ⟨q, -⟩ | q
  · cases q
  · exact q
theorem yzs_zald {Ee : yE} {l : Launch} {G : zG} {md d : Nat} {h : zHdr} {n0 : Nat} {Q : Int → zH → Prop} {QX : Nat → zH → Prop} {pc : Nat} {L r : List zV} {v : zH} {n : Nat} {a j : Int} (hd : decode (hB h) pc = .ok (.baload, 1)) (hcl : zCL a = 21) (hj : 0 ≤ j ∧ j < zLN a) (kk : yJp Ee l G md d h n0 Q QX (pc + 1) L ((0, v a j) :: r) v n) : yJp Ee l G md d h n0 Q QX pc L ((0, j) :: (2, a) :: r) v n := by
  intro p e R s m args below meth c QW C hEe H locs ls hP hS hL hSt a1 a2 a3
  obtain ⟨⟨hx, hb, hml, hown, hts⟩, ⟨hKt, hZt, hB0, hB1⟩, ⟨hf1, hf2, hf3, hf4⟩, hin, hHR, hHX⟩ := id C
  obtain ⟨⟨hjr, -⟩, hSt0⟩ := zStk_c.mp hSt
  obtain ⟨⟨hor, -⟩, hSt1⟩ := zStk_c.mp hSt0
  obtain ⟨i, rfl, hi, hci⟩ := zcell hor hcl (by omega)
  show W p l e R s m args below meth c H locs (n - n0) (zSZ n - zSZ n0) QW (F0 m pc ls (.int (Int32.ofInt j) :: zc G (2, (i : Int)) :: r.map (zc G)))
  rw [zc_ref (by omega), zad_n]
  have hrg := zrow_rg hP.2.2 hi (by omega) hj.1 (fun k => zTg21 (k := k) hci)
  refine va_zald hx hb hKt hP.1 i 1 (by rw [zW_get hi, zE_21 hci]) rfl (z_inA hj hjr) hd ?_
  have e1 := z_idx hj.1 hjr
  rw [e1]
  refine kk p e R s m args below meth c QW C hEe H locs ls hP hS hL (zStk_c.mpr ⟨⟨?_, by simp⟩, hSt1⟩) a1 a2 a3
  rcases hrg with ⟨q, -⟩ | q
  · cases q
  · exact q
theorem yzs_lald {Ee : yE} {l : Launch} {G : zG} {md d : Nat} {h : zHdr} {n0 : Nat} {Q : Int → zH → Prop} {QX : Nat → zH → Prop} {pc : Nat} {L r : List zV} {v : zH} {n : Nat} {a j : Int} (hd : decode (hB h) pc = .ok (.laload, 1)) (hcl : zCL a = 22) (hj : 0 ≤ j ∧ j < zLN a) (kk : yJp Ee l G md d h n0 Q QX (pc + 1) L ((1, v a j) :: r) v n) : yJp Ee l G md d h n0 Q QX pc L ((0, j) :: (2, a) :: r) v n := by
  intro p e R s m args below meth c QW C hEe H locs ls hP hS hL hSt a1 a2 a3
  obtain ⟨⟨hx, hb, hml, hown, hts⟩, ⟨hKt, hZt, hB0, hB1⟩, ⟨hf1, hf2, hf3, hf4⟩, hin, hHR, hHX⟩ := id C
  obtain ⟨⟨hjr, -⟩, hSt0⟩ := zStk_c.mp hSt
  obtain ⟨⟨hor, -⟩, hSt1⟩ := zStk_c.mp hSt0
  obtain ⟨i, rfl, hi, hci⟩ := zcell hor hcl (by omega)
  show W p l e R s m args below meth c H locs (n - n0) (zSZ n - zSZ n0) QW (F0 m pc ls (.int (Int32.ofInt j) :: zc G (2, (i : Int)) :: r.map (zc G)))
  rw [zc_ref (by omega), zad_n]
  have hrg := zrow_rg hP.2.2 hi (by omega) hj.1 (fun k => zTg22 (k := k) hci)
  refine va_lald hx hb hKt hP.1 i 2 (by rw [zW_get hi, zE_22 hci]) rfl (z_inA hj hjr) hd ?_
  have e1 := z_idx hj.1 hjr
  rw [e1]
  refine kk p e R s m args below meth c QW C hEe H locs ls hP hS hL (zStk_c.mpr ⟨⟨?_, by simp⟩, hSt1⟩) a1 a2 a3
  rcases hrg with ⟨q, -⟩ | q
  · cases q
  · exact q
theorem yzs_aald {Ee : yE} {l : Launch} {G : zG} {md d : Nat} {h : zHdr} {n0 : Nat} {Q : Int → zH → Prop} {QX : Nat → zH → Prop} {pc : Nat} {L r : List zV} {v : zH} {n : Nat} {a j : Int} (hd : decode (hB h) pc = .ok (.aaload, 1)) (hcl : zCL a = 23) (hj : 0 ≤ j ∧ j < zLN a) (hnn : v a j ≠ -1000) (kk : yJp Ee l G md d h n0 Q QX (pc + 1) L ((2, v a j) :: r) v n) : yJp Ee l G md d h n0 Q QX pc L ((0, j) :: (2, a) :: r) v n := by
  intro p e R s m args below meth c QW C hEe H locs ls hP hS hL hSt a1 a2 a3
  obtain ⟨⟨hx, hb, hml, hown, hts⟩, ⟨hKt, hZt, hB0, hB1⟩, ⟨hf1, hf2, hf3, hf4⟩, hin, hHR, hHX⟩ := id C
  obtain ⟨⟨hjr, -⟩, hSt0⟩ := zStk_c.mp hSt
  obtain ⟨⟨hor, -⟩, hSt1⟩ := zStk_c.mp hSt0
  obtain ⟨i, rfl, hi, hci⟩ := zcell hor hcl (by omega)
  show W p l e R s m args below meth c H locs (n - n0) (zSZ n - zSZ n0) QW (F0 m pc ls (.int (Int32.ofInt j) :: zc G (2, (i : Int)) :: r.map (zc G)))
  rw [zc_ref (by omega), zad_n]
  have hrg := zrow_rg hP.2.2 hi (by omega) hj.1 (fun k => zTg23 (k := k) hci)
  refine va_aldq hx hb hKt hP.1 i 3 (by rw [zW_get hi, zE_23 hci]) rfl (z_inA hj hjr) hd ?_
  have e1 := z_idx hj.1 hjr
  rw [e1, if_neg hnn]
  show W p l e R s m args below meth c H locs (n - n0) (zSZ n - zSZ n0) QW (F0 m (pc + 1) ls (.ref (zad G (v i j)) :: r.map (zc G)))
  rw [← zc_ref hnn]
  refine kk p e R s m args below meth c QW C hEe H locs ls hP hS hL (zStk_c.mpr ⟨⟨?_, by simp⟩, hSt1⟩) a1 a2 a3
  rcases hrg with ⟨-, q⟩ | q
  · exact absurd q hnn
  · exact q
theorem yzs_iast {Ee : yE} {l : Launch} {G : zG} {md d : Nat} {h : zHdr} {n0 : Nat} {Q : Int → zH → Prop} {QX : Nat → zH → Prop} {pc : Nat} {L r : List zV} {v : zH} {n : Nat} {a j x : Int} (hd : decode (hB h) pc = .ok (.iastore, 1)) (hcl : zCL a = 20) (hj : 0 ≤ j ∧ j < zLN a) (kk : yJp Ee l G md d h n0 Q QX (pc + 1) L r (zupd v a j x) n) : yJp Ee l G md d h n0 Q QX pc L ((0, x) :: (0, j) :: (2, a) :: r) v n := by
  intro p e R s m args below meth c QW C hEe H locs ls hP hS hL hSt a1 a2 a3
  obtain ⟨⟨hx, hb, hml, hown, hts⟩, ⟨hKt, hZt, hB0, hB1⟩, ⟨hf1, hf2, hf3, hf4⟩, hin, hHR, hHX⟩ := id C
  obtain ⟨⟨hxr, -⟩, hStx⟩ := zStk_c.mp hSt
  obtain ⟨⟨hjr, -⟩, hSt0⟩ := zStk_c.mp hStx
  obtain ⟨⟨hor, -⟩, hSt1⟩ := zStk_c.mp hSt0
  obtain ⟨i, rfl, hi, hci⟩ := zcell hor hcl (by omega)
  show W p l e R s m args below meth c H locs (n - n0) (zSZ n - zSZ n0) QW (F0 m pc ls (.int (Int32.ofInt x) :: .int (Int32.ofInt j) :: zc G (2, (i : Int)) :: r.map (zc G)))
  rw [zc_ref (by omega), zad_n]
  refine va_iast hx hb hKt hP.1 zW_D hS i 0 (by rw [zW_get hi, zE_20 hci]) rfl (z_inA hj hjr) hd (fun H1 locs1 q1 q2 q3 => ?_)
  rw [z32_clamp hjr, zW_set (v' := zupd v i j x) hi (by rw [zE_20 hci, zupd_fun20 hj.1]) (fun j' _ hji => zE_ne (by omega))] at q1
  have hxn : zRn n (zTg i j.toNat) x := by
    rw [zTg20 hci]
    exact Or.inr hxr
  have q1' := zput_ok (j := j.toNat) hP hi hxn (by rw [show ((j.toNat : Nat) : Int) = j by omega]; exact q1)
  rw [show ((j.toNat : Nat) : Int) = j by omega] at q1'
  exact kk p e R s m args below meth c QW C hEe H1 locs1 ls q1' q3 hL hSt1 a1 a2 a3
theorem yzs_zast {Ee : yE} {l : Launch} {G : zG} {md d : Nat} {h : zHdr} {n0 : Nat} {Q : Int → zH → Prop} {QX : Nat → zH → Prop} {pc : Nat} {L r : List zV} {v : zH} {n : Nat} {a j x : Int} (hd : decode (hB h) pc = .ok (.bastore, 1)) (hcl : zCL a = 21) (hj : 0 ≤ j ∧ j < zLN a) (hx01 : x = 0 ∨ x = 1) (kk : yJp Ee l G md d h n0 Q QX (pc + 1) L r (zupd v a j x) n) : yJp Ee l G md d h n0 Q QX pc L ((0, x) :: (0, j) :: (2, a) :: r) v n := by
  intro p e R s m args below meth c QW C hEe H locs ls hP hS hL hSt a1 a2 a3
  obtain ⟨⟨hx, hb, hml, hown, hts⟩, ⟨hKt, hZt, hB0, hB1⟩, ⟨hf1, hf2, hf3, hf4⟩, hin, hHR, hHX⟩ := id C
  obtain ⟨⟨hxr, -⟩, hStx⟩ := zStk_c.mp hSt
  obtain ⟨⟨hjr, -⟩, hSt0⟩ := zStk_c.mp hStx
  obtain ⟨⟨hor, -⟩, hSt1⟩ := zStk_c.mp hSt0
  obtain ⟨i, rfl, hi, hci⟩ := zcell hor hcl (by omega)
  show W p l e R s m args below meth c H locs (n - n0) (zSZ n - zSZ n0) QW (F0 m pc ls (.int (Int32.ofInt x) :: .int (Int32.ofInt j) :: zc G (2, (i : Int)) :: r.map (zc G)))
  rw [zc_ref (by omega), zad_n]
  refine va_zast hx hb hKt hP.1 zW_D hS i 1 (by rw [zW_get hi, zE_21 hci]) rfl (z_inA hj hjr) hd (fun H1 locs1 q1 q2 q3 => ?_)
  have hnar : vp_nar .boolean (Int32.ofInt x) = Int32.ofInt x := by rcases hx01 with rfl | rfl <;> rfl
  rw [hnar] at q1
  rw [z32_clamp hjr, zW_set (v' := zupd v i j x) hi (by rw [zE_21 hci, zupd_fun20 hj.1]) (fun j' _ hji => zE_ne (by omega))] at q1
  have hxn : zRn n (zTg i j.toNat) x := by
    rw [zTg21 hci]
    exact Or.inr hxr
  have q1' := zput_ok (j := j.toNat) hP hi hxn (by rw [show ((j.toNat : Nat) : Int) = j by omega]; exact q1)
  rw [show ((j.toNat : Nat) : Int) = j by omega] at q1'
  exact kk p e R s m args below meth c QW C hEe H1 locs1 ls q1' q3 hL hSt1 a1 a2 a3
theorem yzs_last {Ee : yE} {l : Launch} {G : zG} {md d : Nat} {h : zHdr} {n0 : Nat} {Q : Int → zH → Prop} {QX : Nat → zH → Prop} {pc : Nat} {L r : List zV} {v : zH} {n : Nat} {a j x : Int} (hd : decode (hB h) pc = .ok (.lastore, 1)) (hcl : zCL a = 22) (hj : 0 ≤ j ∧ j < zLN a) (kk : yJp Ee l G md d h n0 Q QX (pc + 1) L r (zupd v a j x) n) : yJp Ee l G md d h n0 Q QX pc L ((1, x) :: (0, j) :: (2, a) :: r) v n := by
  intro p e R s m args below meth c QW C hEe H locs ls hP hS hL hSt a1 a2 a3
  obtain ⟨⟨hx, hb, hml, hown, hts⟩, ⟨hKt, hZt, hB0, hB1⟩, ⟨hf1, hf2, hf3, hf4⟩, hin, hHR, hHX⟩ := id C
  obtain ⟨⟨hxr, -⟩, hStx⟩ := zStk_c.mp hSt
  obtain ⟨⟨hjr, -⟩, hSt0⟩ := zStk_c.mp hStx
  obtain ⟨⟨hor, -⟩, hSt1⟩ := zStk_c.mp hSt0
  obtain ⟨i, rfl, hi, hci⟩ := zcell hor hcl (by omega)
  show W p l e R s m args below meth c H locs (n - n0) (zSZ n - zSZ n0) QW (F0 m pc ls (.long (Int64.ofInt x) :: .int (Int32.ofInt j) :: zc G (2, (i : Int)) :: r.map (zc G)))
  rw [zc_ref (by omega), zad_n]
  refine va_last hx hb hKt hP.1 zW_D hS i 2 (by rw [zW_get hi, zE_22 hci]) rfl (z_inA hj hjr) hd (fun H1 locs1 q1 q2 q3 => ?_)
  rw [z32_clamp hjr, zW_set (v' := zupd v i j x) hi (by rw [zE_22 hci, zupd_fun22 hj.1]) (fun j' _ hji => zE_ne (by omega))] at q1
  have hxn : zRn n (zTg i j.toNat) x := by
    rw [zTg22 hci]
    exact Or.inr hxr
  have q1' := zput_ok (j := j.toNat) hP hi hxn (by rw [show ((j.toNat : Nat) : Int) = j by omega]; exact q1)
  rw [show ((j.toNat : Nat) : Int) = j by omega] at q1'
  exact kk p e R s m args below meth c QW C hEe H1 locs1 ls q1' q3 hL hSt1 a1 a2 a3
theorem yzs_aast {Ee : yE} {l : Launch} {G : zG} {md d : Nat} {h : zHdr} {n0 : Nat} {Q : Int → zH → Prop} {QX : Nat → zH → Prop} {pc : Nat} {L r : List zV} {v : zH} {n : Nat} {a j x : Int} (hd : decode (hB h) pc = .ok (.aastore, 1)) (hcl : zCL a = 23) (hj : 0 ≤ j ∧ j < zLN a) (hxc : zCL x = 2) (kk : yJp Ee l G md d h n0 Q QX (pc + 1) L r (zupd v a j x) n) : yJp Ee l G md d h n0 Q QX pc L ((2, x) :: (0, j) :: (2, a) :: r) v n := by
  intro p e R s m args below meth c QW C hEe H locs ls hP hS hL hSt a1 a2 a3
  obtain ⟨⟨hx, hb, hml, hown, hts⟩, ⟨hKt, hZt, hB0, hB1⟩, ⟨hf1, hf2, hf3, hf4⟩, hin, hHR, hHX⟩ := id C
  obtain ⟨⟨hxr, -⟩, hStx⟩ := zStk_c.mp hSt
  obtain ⟨⟨hjr, -⟩, hSt0⟩ := zStk_c.mp hStx
  obtain ⟨⟨hor, -⟩, hSt1⟩ := zStk_c.mp hSt0
  obtain ⟨i, rfl, hi, hci⟩ := zcell hor hcl (by omega)
  obtain ⟨k, rfl, hkn, hck⟩ := zcell hxr hxc (by omega)
  show W p l e R s m args below meth c H locs (n - n0) (zSZ n - zSZ n0) QW (F0 m pc ls (zc G (2, (k : Int)) :: .int (Int32.ofInt j) :: zc G (2, (i : Int)) :: r.map (zc G)))
  rw [zc_ref (by omega), zc_ref (by omega), zad_n, zad_n]
  refine va_astq (r := zcr 2) hx hb hKt hP.1 zW_D hS i 3 k 2 (by rw [zW_get hi, zE_23 hci]) rfl (by rw [zW_get hkn, zE_o hck (by omega)]) (zcr_get (by omega)) (z_inA hj hjr) hd (fun H1 locs1 q1 q2 q3 => ?_)
  rw [z32_clamp hjr, show zgB G + k = zad G (k : Int) from zad_n.symm, zW_set (v' := zupd v i j k) hi (by rw [zE_23 hci, zupd_fun23 hj.1 (by omega)]) (fun j' _ hji => zE_ne (by omega))] at q1
  have hxn : zRn n (zTg i j.toNat) k := by
    rw [zTg23 hci]
    exact Or.inr hxr
  have q1' := zput_ok (j := j.toNat) hP hi hxn (by rw [show ((j.toNat : Nat) : Int) = j by omega]; exact q1)
  rw [show ((j.toNat : Nat) : Int) = j by omega] at q1'
  exact kk p e R s m args below meth c QW C hEe H1 locs1 ls q1' q3 hL hSt1 a1 a2 a3
theorem yzs_sld {Ee : yE} {l : Launch} {G : zG} {md d : Nat} {h : zHdr} {n0 : Nat} {Q : Int → zH → Prop} {QX : Nat → zH → Prop} {pc : Nat} {L r : List zV} {v : zH} {n : Nat} {a j : Int} (hd : decode (hB h) pc = .ok (.iaload, 1)) (hcl : zCL a = 25) (hj : 0 ≤ j ∧ j < zLN a) (kk : yJp Ee l G md d h n0 Q QX (pc + 1) L ((0, zSA a j) :: r) v n) : yJp Ee l G md d h n0 Q QX pc L ((0, j) :: (2, a) :: r) v n := by
  intro p e R s m args below meth c QW C hEe H locs ls hP hS hL hSt a1 a2 a3
  obtain ⟨⟨hx, hb, hml, hown, hts⟩, ⟨hKt, hZt, hB0, hB1⟩, ⟨hf1, hf2, hf3, hf4⟩, hin, hHR, hHX⟩ := id C
  obtain ⟨⟨hjr, -⟩, hSt0⟩ := zStk_c.mp hSt
  obtain ⟨⟨hor, -⟩, hSt1⟩ := zStk_c.mp hSt0
  obtain ⟨k, hk, rfl⟩ := zsa hor hcl
  show W p l e R s m args below meth c H locs (n - n0) (zSZ n - zSZ n0) QW (F0 m pc ls (.int (Int32.ofInt j) :: zc G (2, -2 - (k : Int)) :: r.map (zc G)))
  rw [zc_ref (by omega), zad_s (by omega)]
  refine va_ti hx hb (hZt.1 k hk) hS (by have := z_inA hj hjr; rwa [zLN_sa hk] at this) rfl hd ?_
  have e1 := z_idx hj.1 hjr
  rw [e1]
  exact kk p e R s m args below meth c QW C hEe H locs ls hP hS hL (zStk_c.mpr ⟨⟨⟨by have := zSA_rg (-2 - (k : Int)) j; show -2147483648 ≤ zSA (-2 - (k : Int)) j; omega, by have := zSA_rg (-2 - (k : Int)) j; show zSA (-2 - (k : Int)) j ≤ 2147483647; omega⟩, by simp⟩, hSt1⟩) a1 a2 a3
theorem yzs_bld {Ee : yE} {l : Launch} {G : zG} {md d : Nat} {h : zHdr} {n0 : Nat} {Q : Int → zH → Prop} {QX : Nat → zH → Prop} {pc : Nat} {L r : List zV} {v : zH} {n : Nat} {a j : Int} (hd : decode (hB h) pc = .ok (.baload, 1)) (hcl : zCL a = 28) (hj : 0 ≤ j ∧ j < zLN a) (kk : yJp Ee l G md d h n0 Q QX (pc + 1) L ((0, zLA a j) :: r) v n) : yJp Ee l G md d h n0 Q QX pc L ((0, j) :: (2, a) :: r) v n := by
  intro p e R s m args below meth c QW C hEe H locs ls hP hS hL hSt a1 a2 a3
  obtain ⟨⟨hx, hb, hml, hown, hts⟩, ⟨hKt, hZt, hB0, hB1⟩, ⟨hf1, hf2, hf3, hf4⟩, hin, hHR, hHX⟩ := id C
  obtain ⟨⟨hjr, -⟩, hSt0⟩ := zStk_c.mp hSt
  obtain ⟨⟨hor, -⟩, hSt1⟩ := zStk_c.mp hSt0
  obtain ⟨k, hk, rfl⟩ := zsb hor hcl
  show W p l e R s m args below meth c H locs (n - n0) (zSZ n - zSZ n0) QW (F0 m pc ls (.int (Int32.ofInt j) :: zc G (2, -31 - (k : Int)) :: r.map (zc G)))
  rw [zc_ref (by omega), zad_s (by omega)]
  refine va_tb hx hb (hZt.2.2.2.1 k hk).2.2.2 hS (by have := z_inA hj hjr; rwa [zLN_sb hk] at this) rfl hd ?_
  have e1 := z_idx hj.1 hjr
  rw [e1]
  exact kk p e R s m args below meth c QW C hEe H locs ls hP hS hL (zStk_c.mpr ⟨⟨⟨by have := zLA_rg (-31 - (k : Int)) j; show -2147483648 ≤ zLA (-31 - (k : Int)) j; omega, by have := zLA_rg (-31 - (k : Int)) j; show zLA (-31 - (k : Int)) j ≤ 2147483647; omega⟩, by simp⟩, hSt1⟩) a1 a2 a3
theorem yzs_cld {Ee : yE} {l : Launch} {G : zG} {md d : Nat} {h : zHdr} {n0 : Nat} {Q : Int → zH → Prop} {QX : Nat → zH → Prop} {pc : Nat} {L r : List zV} {v : zH} {n : Nat} {j : Int} (hd : decode (hB h) pc = .ok (.iaload, 1)) (hj : 0 ≤ j ∧ j < zgL G) (kk : yJp Ee l G md d h n0 Q QX (pc + 1) L ((0, zgS G j) :: r) v n) : yJp Ee l G md d h n0 Q QX pc L ((0, j) :: (2, -20) :: r) v n := by
  intro p e R s m args below meth c QW C hEe H locs ls hP hS hL hSt a1 a2 a3
  obtain ⟨⟨hx, hb, hml, hown, hts⟩, ⟨hKt, hZt, hB0, hB1⟩, ⟨hf1, hf2, hf3, hf4⟩, hin, hHR, hHX⟩ := id C
  obtain ⟨⟨hjr, -⟩, hSt0⟩ := zStk_c.mp hSt
  obtain ⟨⟨hor, -⟩, hSt1⟩ := zStk_c.mp hSt0
  show W p l e R s m args below meth c H locs (n - n0) (zSZ n - zSZ n0) QW (F0 m pc ls (.int (Int32.ofInt j) :: zc G (2, -20) :: r.map (zc G)))
  rw [zc_ref (by omega), zad_s (by omega)]
  have e1 := z_idx hj.1 hjr
  refine va_ti hx hb hZt.2.2.1.1 hS (z_in rfl hj.1 hj.2 hjr) rfl hd ?_
  rw [e1]
  have hrg := hZt.2.2.1.2.2.2 j.toNat
  rw [show ((j.toNat : Nat) : Int) = j by omega] at hrg
  exact kk p e R s m args below meth c QW C hEe H locs ls hP hS hL (zStk_c.mpr ⟨⟨hrg, by simp⟩, hSt1⟩) a1 a2 a3
theorem yzs_len {Ee : yE} {l : Launch} {G : zG} {md d : Nat} {h : zHdr} {n0 : Nat} {Q : Int → zH → Prop} {QX : Nat → zH → Prop} {pc : Nat} {L r : List zV} {v : zH} {n : Nat} {a : Int} (hd : decode (hB h) pc = .ok (.arraylength, 1)) (hcl : zCL a = 20 ∨ zCL a = 21 ∨ zCL a = 23) (kk : yJp Ee l G md d h n0 Q QX (pc + 1) L ((0, zLN a) :: r) v n) : yJp Ee l G md d h n0 Q QX pc L ((2, a) :: r) v n := by
  intro p e R s m args below meth c QW C hEe H locs ls hP hS hL hSt a1 a2 a3
  obtain ⟨⟨hx, hb, hml, hown, hts⟩, ⟨hKt, hZt, hB0, hB1⟩, ⟨hf1, hf2, hf3, hf4⟩, hin, hHR, hHX⟩ := id C
  obtain ⟨⟨hor, -⟩, hSt1⟩ := zStk_c.mp hSt
  have hlt : zI (zLN a) := by
    have h0 : 0 ≤ a := by rcases hcl with q | q | q <;> exact zCL_le q (by omega)
    have := zLN_small h0
    have := zLN_le a
    exact ⟨by omega, by omega⟩
  have kk' := kk p e R s m args below meth c QW C hEe H locs ls hP hS hL (zStk_c.mpr ⟨⟨hlt, by simp⟩, hSt1⟩) a1 a2 a3
  rcases hcl with hcl | hcl | hcl
  · obtain ⟨i, rfl, hi, hci⟩ := zcell hor hcl (by omega)
    show W p l e R s m args below meth c H locs (n - n0) (zSZ n - zSZ n0) QW (F0 m pc ls (zc G (2, (i : Int)) :: r.map (zc G)))
    rw [zc_ref (by omega), zad_n]
    exact va_alen hx hb hKt hP.1 i 0 (by rw [zW_get hi, zE_20 hci]) rfl (zLN_of i) hd kk'
  · obtain ⟨i, rfl, hi, hci⟩ := zcell hor hcl (by omega)
    show W p l e R s m args below meth c H locs (n - n0) (zSZ n - zSZ n0) QW (F0 m pc ls (zc G (2, (i : Int)) :: r.map (zc G)))
    rw [zc_ref (by omega), zad_n]
    exact va_alen hx hb hKt hP.1 i 1 (by rw [zW_get hi, zE_21 hci]) rfl (zLN_of i) hd kk'
  · obtain ⟨i, rfl, hi, hci⟩ := zcell hor hcl (by omega)
    show W p l e R s m args below meth c H locs (n - n0) (zSZ n - zSZ n0) QW (F0 m pc ls (zc G (2, (i : Int)) :: r.map (zc G)))
    rw [zc_ref (by omega), zad_n]
    exact va_alen hx hb hKt hP.1 i 3 (by rw [zW_get hi, zE_23 hci]) rfl (zLN_of i) hd kk'
theorem yzs_slen {Ee : yE} {l : Launch} {G : zG} {md d : Nat} {h : zHdr} {n0 : Nat} {Q : Int → zH → Prop} {QX : Nat → zH → Prop} {pc : Nat} {L r : List zV} {v : zH} {n : Nat} {a : Int} (hd : decode (hB h) pc = .ok (.arraylength, 1)) (hcl : zCL a = 25 ∨ zCL a = 28) (kk : yJp Ee l G md d h n0 Q QX (pc + 1) L ((0, zLN a) :: r) v n) : yJp Ee l G md d h n0 Q QX pc L ((2, a) :: r) v n := by
  intro p e R s m args below meth c QW C hEe H locs ls hP hS hL hSt a1 a2 a3
  obtain ⟨⟨hx, hb, hml, hown, hts⟩, ⟨hKt, hZt, hB0, hB1⟩, ⟨hf1, hf2, hf3, hf4⟩, hin, hHR, hHX⟩ := id C
  obtain ⟨⟨hor, -⟩, hSt1⟩ := zStk_c.mp hSt
  rcases hcl with hcl | hcl
  · obtain ⟨k, hk, rfl⟩ := zsa hor hcl
    show W p l e R s m args below meth c H locs (n - n0) (zSZ n - zSZ n0) QW (F0 m pc ls (zc G (2, -2 - (k : Int)) :: r.map (zc G)))
    rw [zc_ref (by omega), zad_s (by omega)]
    have e0 := zLN_sa hk
    have e9 : (zSTab.getD k []).length ≤ 5 := (show ∀ k, k < 9 → (zSTab.getD k []).length ≤ 5 by decide +kernel) k hk
    have e1 := zLN_le (-2 - (k : Int))
    exact va_tlen hx hb (hZt.1 k hk) hS (by rw [← e0]; exact zLN_of _) hd (kk p e R s m args below meth c QW C hEe H locs ls hP hS hL (zStk_c.mpr ⟨⟨⟨by show -2147483648 ≤ zLN (-2 - (k : Int)); omega, by show zLN (-2 - (k : Int)) ≤ 2147483647; omega⟩, by simp⟩, hSt1⟩) a1 a2 a3)
  · obtain ⟨k, hk, rfl⟩ := zsb hor hcl
    show W p l e R s m args below meth c H locs (n - n0) (zSZ n - zSZ n0) QW (F0 m pc ls (zc G (2, -31 - (k : Int)) :: r.map (zc G)))
    rw [zc_ref (by omega), zad_s (by omega)]
    have e0 := zLN_sb hk
    have e9 : (zLTab.getD k []).length ≤ 5 := (show ∀ k, k < 3 → (zLTab.getD k []).length ≤ 5 by decide +kernel) k hk
    have e1 := zLN_le (-31 - (k : Int))
    exact va_tlen hx hb (hZt.2.2.2.1 k hk).2.2.2 hS (by rw [← e0]; exact zLN_of _) hd (kk p e R s m args below meth c QW C hEe H locs ls hP hS hL (zStk_c.mpr ⟨⟨⟨by show -2147483648 ≤ zLN (-31 - (k : Int)); omega, by show zLN (-31 - (k : Int)) ≤ 2147483647; omega⟩, by simp⟩, hSt1⟩) a1 a2 a3)
theorem yzs_clen {Ee : yE} {l : Launch} {G : zG} {md d : Nat} {h : zHdr} {n0 : Nat} {Q : Int → zH → Prop} {QX : Nat → zH → Prop} {pc : Nat} {L r : List zV} {v : zH} {n : Nat} (hd : decode (hB h) pc = .ok (.arraylength, 1)) (kk : yJp Ee l G md d h n0 Q QX (pc + 1) L ((0, zgL G) :: r) v n) : yJp Ee l G md d h n0 Q QX pc L ((2, -20) :: r) v n := by
  intro p e R s m args below meth c QW C hEe H locs ls hP hS hL hSt a1 a2 a3
  obtain ⟨⟨hx, hb, hml, hown, hts⟩, ⟨hKt, hZt, hB0, hB1⟩, ⟨hf1, hf2, hf3, hf4⟩, hin, hHR, hHX⟩ := id C
  obtain ⟨⟨hor, -⟩, hSt1⟩ := zStk_c.mp hSt
  show W p l e R s m args below meth c H locs (n - n0) (zSZ n - zSZ n0) QW (F0 m pc ls (zc G (2, -20) :: r.map (zc G)))
  rw [zc_ref (by omega), zad_s (by omega)]
  have e1 := hZt.2.2.1.2.1
  have e2 := hZt.2.2.1.2.2.1
  exact va_tlen hx hb hZt.2.2.1.1 hS (by rw [← z_nat, show (((zgL G).toNat : Nat) : Int) = zgL G by omega]) hd (kk p e R s m args below meth c QW C hEe H locs ls hP hS hL (zStk_c.mpr ⟨⟨⟨by show -2147483648 ≤ zgL G; omega, by show zgL G ≤ 2147483647; omega⟩, by simp⟩, hSt1⟩) a1 a2 a3)
theorem yzs_sval {Ee : yE} {l : Launch} {G : zG} {md d : Nat} {h : zHdr} {n0 : Nat} {Q : Int → zH → Prop} {QX : Nat → zH → Prop} {pc : Nat} {L r : List zV} {v : zH} {n : Nat} {idx : Nat} {o : Int} (hd : decode (hB h) pc = .ok (.getfield idx, 3)) (hw : Jvm.Cond.fieldLink (hO h) idx "java/lang/String" "value" "[B" ∈ zws) (hcl : zCL o = 26) (kk : yJp Ee l G md d h n0 Q QX (pc + 3) L ((2, o - 20) :: r) v n) : yJp Ee l G md d h n0 Q QX pc L ((2, o) :: r) v n := by
  intro p e R s m args below meth c QW C hEe H locs ls hP hS hL hSt a1 a2 a3
  obtain ⟨⟨hx, hb, hml, hown, hts⟩, ⟨hKt, hZt, hB0, hB1⟩, ⟨hf1, hf2, hf3, hf4⟩, hin, hHR, hHX⟩ := id C
  obtain ⟨⟨hor, -⟩, hSt1⟩ := zStk_c.mp hSt
  obtain ⟨k, hk, rfl⟩ := zsc hor hcl
  show W p l e R s m args below meth c H locs (n - n0) (zSZ n - zSZ n0) QW (F0 m pc ls (zc G (2, -11 - (k : Int)) :: r.map (zc G)))
  rw [zc_ref (by omega), zad_s (by omega)]
  refine vk_getf hx hb (hZt.2.2.2.1 k hk).2.2.1 hS hown (hts _ hw) (fun _ q => q) hd ?_
  have e1 : Value.ref (zgA G (-31 - (k : Int))) = zc G (2, -11 - (k : Int) - 20) := by
    rw [zc_ref (by omega), zad_s (by omega), show -11 - (k : Int) - 20 = -31 - (k : Int) by omega]
  rw [e1]
  exact kk p e R s m args below meth c QW C hEe H locs ls hP hS hL (zStk_c.mpr ⟨⟨⟨by show -40 ≤ -11 - (k : Int) - 20; omega, by show -11 - (k : Int) - 20 < _; omega⟩, by simp⟩, hSt1⟩) a1 a2 a3
theorem yzs_scod {Ee : yE} {l : Launch} {G : zG} {md d : Nat} {h : zHdr} {n0 : Nat} {Q : Int → zH → Prop} {QX : Nat → zH → Prop} {pc : Nat} {L r : List zV} {v : zH} {n : Nat} {idx : Nat} {o : Int} (hd : decode (hB h) pc = .ok (.getfield idx, 3)) (hw : Jvm.Cond.fieldLink (hO h) idx "java/lang/String" "coder" "B" ∈ zws) (hcl : zCL o = 26) (kk : yJp Ee l G md d h n0 Q QX (pc + 3) L ((0, 0) :: r) v n) : yJp Ee l G md d h n0 Q QX pc L ((2, o) :: r) v n := by
  intro p e R s m args below meth c QW C hEe H locs ls hP hS hL hSt a1 a2 a3
  obtain ⟨⟨hx, hb, hml, hown, hts⟩, ⟨hKt, hZt, hB0, hB1⟩, ⟨hf1, hf2, hf3, hf4⟩, hin, hHR, hHX⟩ := id C
  obtain ⟨⟨hor, -⟩, hSt1⟩ := zStk_c.mp hSt
  obtain ⟨k, hk, rfl⟩ := zsc hor hcl
  show W p l e R s m args below meth c H locs (n - n0) (zSZ n - zSZ n0) QW (F0 m pc ls (zc G (2, -11 - (k : Int)) :: r.map (zc G)))
  rw [zc_ref (by omega), zad_s (by omega)]
  refine vk_getf hx hb (hZt.2.2.2.1 k hk).2.1 hS hown (hts _ hw) (fun _ q => q) hd ?_
  exact kk p e R s m args below meth c QW C hEe H locs ls hP hS hL (zStk_c.mpr ⟨⟨⟨by simp, by simp⟩, by simp⟩, hSt1⟩) a1 a2 a3
theorem yzs_gst0 {Ee : yE} {l : Launch} {G : zG} {md d : Nat} {h : zHdr} {n0 : Nat} {Q : Int → zH → Prop} {QX : Nat → zH → Prop} {pc : Nat} {L st : List zV} {v : zH} {n : Nat} {idx k : Nat} (hd : decode (hB h) pc = .ok (.getstatic idx, 3)) (hk : k < 9) (hw : Jvm.Cond.fieldLink (hO h) idx "WarmWall$Wall" (zSNm.getD k "") "[I" ∈ zws) (kk : yJp Ee l G md d h n0 Q QX (pc + 3) L ((2, -2 - (k : Int)) :: st) v n) : yJp Ee l G md d h n0 Q QX pc L st v n := by
  intro p e R s m args below meth c QW C hEe H locs ls hP hS hL hSt a1 a2 a3
  obtain ⟨⟨hx, hb, hml, hown, hts⟩, ⟨hKt, hZt, hB0, hB1⟩, ⟨hf1, hf2, hf3, hf4⟩, hin, hHR, hHX⟩ := id C
  refine va_gets hx hb (hZt.2.1 k hk) hS hown (hts _ hw) (fun _ q => q) hd ?_
  have e1 : Value.ref (zgA G (-2 - (k : Int))) = zc G (2, -2 - (k : Int)) := by
    rw [zc_ref (by omega), zad_s (by omega)]
  rw [e1]
  exact kk p e R s m args below meth c QW C hEe H locs ls hP hS hL (zStk_c.mpr ⟨⟨⟨by show -40 ≤ -2 - (k : Int); omega, by show -2 - (k : Int) < _; omega⟩, by simp⟩, hSt⟩) a1 a2 a3
theorem yzs_gst1 {Ee : yE} {l : Launch} {G : zG} {md d : Nat} {h : zHdr} {n0 : Nat} {Q : Int → zH → Prop} {QX : Nat → zH → Prop} {pc : Nat} {L st : List zV} {v : zH} {n : Nat} {idx : Nat} (hd : decode (hB h) pc = .ok (.getstatic idx, 3)) (hw : Jvm.Cond.fieldLink (hO h) idx "jdk/internal/util/Preconditions" "SIOOBE_FORMATTER" "Ljava/util/function/BiFunction;" ∈ zws) (kk : yJp Ee l G md d h n0 Q QX (pc + 3) L ((5, zgF G) :: st) v n) : yJp Ee l G md d h n0 Q QX pc L st v n := by
  intro p e R s m args below meth c QW C hEe H locs ls hP hS hL hSt a1 a2 a3
  obtain ⟨⟨hx, hb, hml, hown, hts⟩, ⟨hKt, hZt, hB0, hB1⟩, ⟨hf1, hf2, hf3, hf4⟩, hin, hHR, hHX⟩ := id C
  refine va_gets hx hb hZt.2.2.2.2.2.2.1 hS hown (hts _ hw) (fun _ q => q) hd ?_
  exact kk p e R s m args below meth c QW C hEe H locs ls hP hS hL (zStk_c.mpr ⟨⟨trivial, by simp⟩, hSt⟩) a1 a2 a3
theorem yzs_gst2 {Ee : yE} {l : Launch} {G : zG} {md d : Nat} {h : zHdr} {n0 : Nat} {Q : Int → zH → Prop} {QX : Nat → zH → Prop} {pc : Nat} {L st : List zV} {v : zH} {n : Nat} {idx : Nat} (hd : decode (hB h) pc = .ok (.getstatic idx, 3)) (hw : Jvm.Cond.fieldLink (hO h) idx "java/lang/String" "COMPACT_STRINGS" "Z" ∈ zws) (kk : yJp Ee l G md d h n0 Q QX (pc + 3) L ((0, 1) :: st) v n) : yJp Ee l G md d h n0 Q QX pc L st v n := by
  intro p e R s m args below meth c QW C hEe H locs ls hP hS hL hSt a1 a2 a3
  obtain ⟨⟨hx, hb, hml, hown, hts⟩, ⟨hKt, hZt, hB0, hB1⟩, ⟨hf1, hf2, hf3, hf4⟩, hin, hHR, hHX⟩ := id C
  refine va_gets hx hb hZt.2.2.2.2.2.1 hS hown (hts _ hw) (fun _ q => q) hd ?_
  exact kk p e R s m args below meth c QW C hEe H locs ls hP hS hL (zStk_c.mpr ⟨⟨⟨by simp, by simp⟩, by simp⟩, hSt⟩) a1 a2 a3

