/-! the same rows over contexts of which more is known -/
theorem yzs_new {Ee : yE} {l : Launch} {G : zG} {md d : Nat} {h : zHdr} {n0 : Nat} {Q : Int → zH → Prop} {QX : Nat → zH → Prop} {pc : Nat} {L st : List zV} {v : zH} {n : Nat} {idx ci : Nat} (hd : decode (hB h) pc = .ok (.new idx, 3)) (hci : ci < 12) (w1 : Jvm.Cond.classLink (hO h) idx (zcr ci).1 ∈ zws) (w2 : Jvm.Cond.instantiable (zcr ci).1 (zcr ci).2.2 ∈ zws) (w3 : Jvm.Cond.initialized (zcr ci).1 ∈ zws) (hcl : zCL (n : Int) = ci) (hmd : md = 0) (hm : n + 1 ≤ n0 + hMc h) (hz : zSZ (n + 1) ≤ zSZ n0 + hMs h) (kk : yJp Ee l G md d h n0 Q QX (pc + 3) L ((2, (n : Int)) :: st) (zborn v n) (n + 1)) : yJp Ee l G md d h n0 Q QX pc L st v n := by
  subst hmd
  intro p e R s m args below meth c QW C hEe H locs ls hP hS hL hSt a1 a2 a3
  obtain ⟨⟨hx, hb, hml, hown, hts⟩, ⟨hKt, hZt, hB0, hB1⟩, ⟨hf1, hf2, hf3, hf4⟩, hin, hHR, hHX⟩ := id C
  refine zW_size fun hsz => ?_
  have hB2 := hB1 rfl
  have hsize : H.size = zgB G + n := by have := hP.2.1; omega
  obtain ⟨hok1, ⟨ty, hty⟩, hnm⟩ := zcl_ok ci (zcr ci) (zcr_get hci)
  have hKn := hKt.1 ci _ (zcr_get hci)
  have hSZ := zSZ_at hcl (by omega)
  rw [if_pos (by omega), zNF_ok ci hci] at hSZ
  refine W.newcK hx hb hown (hts _ w1) (hts _ w2) (hts _ w3) rfl hd (by omega) (by have := zSZ_mono a1; omega) hKn.2.1 rfl fun H1 kC hkC e1 z1 o1 => ?_
  have hat : va_at (zgD G) zcl (zgB G + n, zE G 0 (zborn v n) n) H1 := by
    rw [zE_o hcl hci]
    refine ⟨_, zcr_get hci, ?_⟩
    rw [← hsize]
    refine (u_born ty hts hok1 hKn hkC e1 hty).to (fun j hj => ?_)
    have hjN : j < zNF ci := by rw [zNF_ok ci hci]; exact hj
    unfold vp_V
    rw [List.getD_eq_getElem?_getD, zfs_get hjN, Option.getD_some, zfv0, zborn_s]
    have h8 : zTg (n : Int) j = zFT ci j := by
      unfold zTg
      rw [hcl, if_neg (by omega), if_neg (by omega), if_neg (by omega)]
    rw [h8]
    exact zdef ci hci j hj (hty j hj)
  have hPb := zP_born hP hsize z1 o1 hat
  have key := kk p e R s m args below meth c QW C hEe H1 locs ls hPb (zS_new hS z1 o1) (zL_mono hL (by omega)) (zStk_c.mpr ⟨⟨⟨by show (-40 : Int) ≤ (n : Int); omega, by show (n : Int) < ((n + 1 : Nat) : Int); omega⟩, by simp⟩, zStk_mono hSt (by omega)⟩) (by omega) hm hz
  have e5 : n + 1 - n0 = n - n0 + 1 := by omega
  have e6 : zSZ (n + 1) - zSZ n0 = zSZ n - zSZ n0 + (zcr ci).2.2 := by have := zSZ_mono a1; omega
  rw [e5, e6] at key
  have e7 : zc G (2, (n : Int)) = .ref H.size := by rw [zc_ref (by omega), zad_n, hsize]
  show W p l e R s m args below meth c H1 locs (n - n0 + 1) (zSZ n - zSZ n0 + (zcr ci).2.2) QW (F0 m (pc + 3) ls (.ref H.size :: st.map (zc G)))
  rw [← e7]
  exact key
theorem yzs_newi {Ee : yE} {l : Launch} {G : zG} {md d : Nat} {h : zHdr} {n0 : Nat} {Q : Int → zH → Prop} {QX : Nat → zH → Prop} {pc : Nat} {L r : List zV} {v : zH} {n : Nat} {x : Int} (hd : decode (hB h) pc = .ok (.newarray .int, 2)) (w1 : Jvm.Cond.arrayClass .int ∈ zws) (hcl : zCL (n : Int) = 20) (hmd : md = 0) (hm : n + 1 ≤ n0 + hMc h) (hz : zSZ (n + 1) ≤ zSZ n0 + hMs h) (hxl : x = zLN n) (kk : yJp Ee l G md d h n0 Q QX (pc + 2) L ((2, (n : Int)) :: r) (zborn v n) (n + 1)) : yJp Ee l G md d h n0 Q QX pc L ((0, x) :: r) v n := by
  subst hmd
  subst hxl
  intro p e R s m args below meth c QW C hEe H locs ls hP hS hL hSt a1 a2 a3
  obtain ⟨⟨hx, hb, hml, hown, hts⟩, ⟨hKt, hZt, hB0, hB1⟩, ⟨hf1, hf2, hf3, hf4⟩, hin, hHR, hHX⟩ := id C
  obtain ⟨-, hSt1⟩ := zStk_c.mp hSt
  refine zW_size fun hsz => ?_
  have hB2 := hB1 rfl
  have hsize : H.size = zgB G + n := by have := hP.2.1; omega
  have hSZ := zSZ_at hcl (by omega)
  rw [if_neg (by omega)] at hSZ
  have h0 := zLN_le (n : Int)
  have h1 := zLN_small (show (0 : Int) ≤ (n : Int) by omega)
  have hI : zI (zLN (n : Int)) := ⟨by omega, by omega⟩
  show W p l e R s m args below meth c H locs (n - n0) (zSZ n - zSZ n0) QW (F0 m pc ls (.int (Int32.ofInt (zLN n)) :: r.map (zc G)))
  refine va_newaK (atype := .int) (N := (zLN (n : Int)).toNat) hx hb (hts _ w1) rfl hd rfl (fun q => by have := (z32_lt0 hI).mp q; omega) (z32_clamp hI) (by show (zLN (n : Int)).toNat * 4 ≤ _; omega) (by omega) (by have := zSZ_mono a1; omega) rfl fun H1 cA e1 z1 o1 hAr hNm => ?_
  have hcA : cA = zgT G 0 := by
    have h2 := (hKt.2 0 _ rfl).2
    exact Option.some.inj (hNm.symm.trans h2)
  have hat : va_at (zgD G) zcl (zgB G + n, zE G 0 (zborn v n) n) H1 := by
    rw [zE_20 hcl, ← hsize, ← hcA]
    show H1[H.size]? = some (vp_cell cA _)
    rw [e1]
    congr 1
    rw [vp_cell_i]
    congr 1
    funext j
    rw [zborn_s, zTg20 hcl]; rfl
  have hPb := zP_born hP hsize z1 o1 hat
  have key := kk p e R s m args below meth c QW C hEe H1 locs ls hPb (zS_new hS z1 o1) (zL_mono hL (by omega)) (zStk_c.mpr ⟨⟨⟨by show (-40 : Int) ≤ (n : Int); omega, by show (n : Int) < ((n + 1 : Nat) : Int); omega⟩, by simp⟩, zStk_mono hSt1 (by omega)⟩) (by omega) hm hz
  have e5 : n + 1 - n0 = n - n0 + 1 := by omega
  have e6 : zSZ (n + 1) - zSZ n0 = zSZ n - zSZ n0 + (zLN (n : Int)).toNat := by have := zSZ_mono a1; omega
  rw [e5, e6] at key
  have e7 : zc G (2, (n : Int)) = .ref H.size := by rw [zc_ref (by omega), zad_n, hsize]
  show W p l e R s m args below meth c H1 locs (n - n0 + 1) (zSZ n - zSZ n0 + (zLN (n : Int)).toNat) QW (F0 m (pc + 2) ls (.ref H.size :: r.map (zc G)))
  rw [← e7]
  exact key
theorem yzs_newz {Ee : yE} {l : Launch} {G : zG} {md d : Nat} {h : zHdr} {n0 : Nat} {Q : Int → zH → Prop} {QX : Nat → zH → Prop} {pc : Nat} {L r : List zV} {v : zH} {n : Nat} {x : Int} (hd : decode (hB h) pc = .ok (.newarray .boolean, 2)) (w1 : Jvm.Cond.arrayClass .boolean ∈ zws) (hcl : zCL (n : Int) = 21) (hmd : md = 0) (hm : n + 1 ≤ n0 + hMc h) (hz : zSZ (n + 1) ≤ zSZ n0 + hMs h) (hxl : x = zLN n) (kk : yJp Ee l G md d h n0 Q QX (pc + 2) L ((2, (n : Int)) :: r) (zborn v n) (n + 1)) : yJp Ee l G md d h n0 Q QX pc L ((0, x) :: r) v n := by
  subst hmd
  subst hxl
  intro p e R s m args below meth c QW C hEe H locs ls hP hS hL hSt a1 a2 a3
  obtain ⟨⟨hx, hb, hml, hown, hts⟩, ⟨hKt, hZt, hB0, hB1⟩, ⟨hf1, hf2, hf3, hf4⟩, hin, hHR, hHX⟩ := id C
  obtain ⟨-, hSt1⟩ := zStk_c.mp hSt
  refine zW_size fun hsz => ?_
  have hB2 := hB1 rfl
  have hsize : H.size = zgB G + n := by have := hP.2.1; omega
  have hSZ := zSZ_at hcl (by omega)
  rw [if_neg (by omega)] at hSZ
  have h0 := zLN_le (n : Int)
  have h1 := zLN_small (show (0 : Int) ≤ (n : Int) by omega)
  have hI : zI (zLN (n : Int)) := ⟨by omega, by omega⟩
  show W p l e R s m args below meth c H locs (n - n0) (zSZ n - zSZ n0) QW (F0 m pc ls (.int (Int32.ofInt (zLN n)) :: r.map (zc G)))
  refine va_newaK (atype := .boolean) (N := (zLN (n : Int)).toNat) hx hb (hts _ w1) rfl hd rfl (fun q => by have := (z32_lt0 hI).mp q; omega) (z32_clamp hI) (by show (zLN (n : Int)).toNat * 1 ≤ _; omega) (by omega) (by have := zSZ_mono a1; omega) rfl fun H1 cA e1 z1 o1 hAr hNm => ?_
  have hcA : cA = zgT G 1 := by
    have h2 := (hKt.2 1 _ rfl).2
    exact Option.some.inj (hNm.symm.trans h2)
  have hat : va_at (zgD G) zcl (zgB G + n, zE G 0 (zborn v n) n) H1 := by
    rw [zE_21 hcl, ← hsize, ← hcA]
    show H1[H.size]? = some (vp_cell cA _)
    rw [e1]
    congr 1
    rw [vp_cell_i]
    congr 1
    funext j
    rw [zborn_s, zTg21 hcl]; rfl
  have hPb := zP_born hP hsize z1 o1 hat
  have key := kk p e R s m args below meth c QW C hEe H1 locs ls hPb (zS_new hS z1 o1) (zL_mono hL (by omega)) (zStk_c.mpr ⟨⟨⟨by show (-40 : Int) ≤ (n : Int); omega, by show (n : Int) < ((n + 1 : Nat) : Int); omega⟩, by simp⟩, zStk_mono hSt1 (by omega)⟩) (by omega) hm hz
  have e5 : n + 1 - n0 = n - n0 + 1 := by omega
  have e6 : zSZ (n + 1) - zSZ n0 = zSZ n - zSZ n0 + (zLN (n : Int)).toNat := by have := zSZ_mono a1; omega
  rw [e5, e6] at key
  have e7 : zc G (2, (n : Int)) = .ref H.size := by rw [zc_ref (by omega), zad_n, hsize]
  show W p l e R s m args below meth c H1 locs (n - n0 + 1) (zSZ n - zSZ n0 + (zLN (n : Int)).toNat) QW (F0 m (pc + 2) ls (.ref H.size :: r.map (zc G)))
  rw [← e7]
  exact key
theorem yzs_newl {Ee : yE} {l : Launch} {G : zG} {md d : Nat} {h : zHdr} {n0 : Nat} {Q : Int → zH → Prop} {QX : Nat → zH → Prop} {pc : Nat} {L r : List zV} {v : zH} {n : Nat} {x : Int} (hd : decode (hB h) pc = .ok (.newarray .long, 2)) (w1 : Jvm.Cond.arrayClass .long ∈ zws) (hcl : zCL (n : Int) = 22) (hmd : md = 0) (hm : n + 1 ≤ n0 + hMc h) (hz : zSZ (n + 1) ≤ zSZ n0 + hMs h) (hxl : x = zLN n) (kk : yJp Ee l G md d h n0 Q QX (pc + 2) L ((2, (n : Int)) :: r) (zborn v n) (n + 1)) : yJp Ee l G md d h n0 Q QX pc L ((0, x) :: r) v n := by
  subst hmd
  subst hxl
  intro p e R s m args below meth c QW C hEe H locs ls hP hS hL hSt a1 a2 a3
  obtain ⟨⟨hx, hb, hml, hown, hts⟩, ⟨hKt, hZt, hB0, hB1⟩, ⟨hf1, hf2, hf3, hf4⟩, hin, hHR, hHX⟩ := id C
  obtain ⟨-, hSt1⟩ := zStk_c.mp hSt
  refine zW_size fun hsz => ?_
  have hB2 := hB1 rfl
  have hsize : H.size = zgB G + n := by have := hP.2.1; omega
  have hSZ := zSZ_at hcl (by omega)
  rw [if_neg (by omega)] at hSZ
  have h0 := zLN_le (n : Int)
  have h1 := zLN_small (show (0 : Int) ≤ (n : Int) by omega)
  have hI : zI (zLN (n : Int)) := ⟨by omega, by omega⟩
  show W p l e R s m args below meth c H locs (n - n0) (zSZ n - zSZ n0) QW (F0 m pc ls (.int (Int32.ofInt (zLN n)) :: r.map (zc G)))
  refine va_newaK (atype := .long) (N := (zLN (n : Int)).toNat) hx hb (hts _ w1) rfl hd rfl (fun q => by have := (z32_lt0 hI).mp q; omega) (z32_clamp hI) (by show (zLN (n : Int)).toNat * 8 ≤ _; omega) (by omega) (by have := zSZ_mono a1; omega) rfl fun H1 cA e1 z1 o1 hAr hNm => ?_
  have hcA : cA = zgT G 2 := by
    have h2 := (hKt.2 2 _ rfl).2
    exact Option.some.inj (hNm.symm.trans h2)
  have hat : va_at (zgD G) zcl (zgB G + n, zE G 0 (zborn v n) n) H1 := by
    rw [zE_22 hcl, ← hsize, ← hcA]
    show H1[H.size]? = some (vp_cell cA _)
    rw [e1]
    congr 1
    rw [vp_cell_l]
    congr 1
    funext j
    rw [zborn_s, zTg22 hcl]; rfl
  have hPb := zP_born hP hsize z1 o1 hat
  have key := kk p e R s m args below meth c QW C hEe H1 locs ls hPb (zS_new hS z1 o1) (zL_mono hL (by omega)) (zStk_c.mpr ⟨⟨⟨by show (-40 : Int) ≤ (n : Int); omega, by show (n : Int) < ((n + 1 : Nat) : Int); omega⟩, by simp⟩, zStk_mono hSt1 (by omega)⟩) (by omega) hm hz
  have e5 : n + 1 - n0 = n - n0 + 1 := by omega
  have e6 : zSZ (n + 1) - zSZ n0 = zSZ n - zSZ n0 + (zLN (n : Int)).toNat := by have := zSZ_mono a1; omega
  rw [e5, e6] at key
  have e7 : zc G (2, (n : Int)) = .ref H.size := by rw [zc_ref (by omega), zad_n, hsize]
  show W p l e R s m args below meth c H1 locs (n - n0 + 1) (zSZ n - zSZ n0 + (zLN (n : Int)).toNat) QW (F0 m (pc + 2) ls (.ref H.size :: r.map (zc G)))
  rw [← e7]
  exact key
theorem yzs_newq {Ee : yE} {l : Launch} {G : zG} {md d : Nat} {h : zHdr} {n0 : Nat} {Q : Int → zH → Prop} {QX : Nat → zH → Prop} {pc : Nat} {L r : List zV} {v : zH} {n : Nat} {x : Int} {idx : Nat} (hd : decode (hB h) pc = .ok (.anewarray idx, 3)) (w1 : Jvm.Cond.classLink (hO h) idx "WarmWall$Law" ∈ zws) (hcl : zCL (n : Int) = 23) (hmd : md = 0) (hm : n + 1 ≤ n0 + hMc h) (hz : zSZ (n + 1) ≤ zSZ n0 + hMs h) (hxl : x = zLN n) (kk : yJp Ee l G md d h n0 Q QX (pc + 3) L ((2, (n : Int)) :: r) (zborn v n) (n + 1)) : yJp Ee l G md d h n0 Q QX pc L ((0, x) :: r) v n := by
  subst hmd
  subst hxl
  intro p e R s m args below meth c QW C hEe H locs ls hP hS hL hSt a1 a2 a3
  obtain ⟨⟨hx, hb, hml, hown, hts⟩, ⟨hKt, hZt, hB0, hB1⟩, ⟨hf1, hf2, hf3, hf4⟩, hin, hHR, hHX⟩ := id C
  obtain ⟨-, hSt1⟩ := zStk_c.mp hSt
  refine zW_size fun hsz => ?_
  have hB2 := hB1 rfl
  have hsize : H.size = zgB G + n := by have := hP.2.1; omega
  have hSZ := zSZ_at hcl (by omega)
  rw [if_neg (by omega)] at hSZ
  have h0 := zLN_le (n : Int)
  have h1 := zLN_small (show (0 : Int) ≤ (n : Int) by omega)
  have hI : zI (zLN (n : Int)) := ⟨by omega, by omega⟩
  show W p l e R s m args below meth c H locs (n - n0) (zSZ n - zSZ n0) QW (F0 m pc ls (.int (Int32.ofInt (zLN n)) :: r.map (zc G)))
  have hcl2 : (Int32.ofInt (zLN (n : Int))).toNatClampNeg = (zLN (n : Int)).toNat := z32_clamp hI
  refine W.anew hx hb hown (hts _ w1) (va_AO.use hZt.2.2.2.2.2.2.2.1) rfl hd rfl (fun q => by have := (z32_lt0 hI).mp q; omega) (by rw [hcl2]; omega) (by omega) (by rw [hcl2]; have := zSZ_mono a1; omega) fun cA kA comp f1 f2 f3 f4 => ?_
  rw [hcl2]
  generalize hH1 : H.push ({ cls := cA, slots := Array.replicate (zLN (n : Int)).toNat .null, vm := .none } : Cell) = H1
  have z1 : H1.size = H.size + 1 := by rw [← hH1, Array.size_push]
  have e1 : H1[H.size]? = some (arrV cA (zLN (n : Int)).toNat (fun _ => .null)) := by rw [← hH1, Array.getElem?_push_size, ← arrV_new]
  have o1 : ∀ q : Nat, q < H.size → H1[q]? = H[q]? := fun q hq => by rw [← hH1, Array.getElem?_push, if_neg (Nat.ne_of_lt hq)]
  have hcA : cA = zgT G 3 := by
    obtain ⟨kA2, comp2, g1, g2, g3, g4⟩ := (hKt.2 3 _ rfl).2
    exact Option.some.inj (f1.symm.trans g4)
  have hat : va_at (zgD G) zcl (zgB G + n, zE G 0 (zborn v n) n) H1 := by
    rw [zE_23 hcl, ← hsize, ← hcA]
    show H1[H.size]? = some (vp_cell cA _)
    rw [e1]
    congr 1
    rw [vp_cell_q]
    congr 1
    funext j
    rw [zborn_s, zTg23 hcl]
    rfl
  have hPb := zP_born hP hsize z1 o1 hat
  have key := kk p e R s m args below meth c QW C hEe H1 locs ls hPb (zS_new hS z1 o1) (zL_mono hL (by omega)) (zStk_c.mpr ⟨⟨⟨by show (-40 : Int) ≤ (n : Int); omega, by show (n : Int) < ((n + 1 : Nat) : Int); omega⟩, by simp⟩, zStk_mono hSt1 (by omega)⟩) (by omega) hm hz
  have e5 : n + 1 - n0 = n - n0 + 1 := by omega
  have e6 : zSZ (n + 1) - zSZ n0 = zSZ n - zSZ n0 + (zLN (n : Int)).toNat := by have := zSZ_mono a1; omega
  rw [e5, e6] at key
  have e7 : zc G (2, (n : Int)) = .ref H.size := by rw [zc_ref (by omega), zad_n, hsize]
  show W p l e R s m args below meth c H1 locs (n - n0 + 1) (zSZ n - zSZ n0 + (zLN (n : Int)).toNat) QW (F0 m (pc + 3) ls (.ref H.size :: r.map (zc G)))
  rw [← e7]
  exact key
theorem yzs_exc {Ee : yE} {l : Launch} {G : zG} {md d : Nat} {h : zHdr} {n0 : Nat} {Q : Int → zH → Prop} {QX : Nat → zH → Prop} {pc : Nat} {L st : List zV} {v : zH} {n : Nat} (hst : st = []) (hn : n = n0) (hq : QX pc v) : yJp Ee l G md d h n0 Q QX pc L st v n := by
  intro p e R s m args below meth c QW C hEe H locs ls hP hS hL hSt a1 a2 a3
  obtain ⟨⟨hx, hb, hml, hown, hts⟩, ⟨hKt, hZt, hB0, hB1⟩, ⟨hf1, hf2, hf3, hf4⟩, hin, hHR, hHX⟩ := id C
  subst hst
  subst hn
  have := hHX H locs ls pc v hq hP hS hL.1
  rw [Nat.sub_self, Nat.sub_self]
  exact this
theorem yzs_obj {Ee : yE} {l : Launch} {G : zG} {md d : Nat} {h : zHdr} {n0 : Nat} {Q : Int → zH → Prop} {QX : Nat → zH → Prop} {pc : Nat} {L r : List zV} {v : zH} {n : Nat} {idx : Nat} {x : Int} (hd : decode (hB h) pc = .ok (.invokespecial idx, 3)) (w1 : Jvm.Cond.methodLink (hO h) idx Lib.objectInit ∈ zws) (w2 : Jvm.Cond.instanceMethod Lib.objectInit ∈ zws) (w3 : Jvm.Cond.code Lib.objectInit ⟨#[0xb1]⟩ 1 none ∈ zws) (hd1 : 1 ≤ d) (hcat : ((r.map (zc G)).map fun v => v.category).sum ≤ 8) (kk : yJp Ee l G md d h n0 Q QX (pc + 3) L r v n) : yJp Ee l G md d h n0 Q QX pc L ((2, x) :: r) v n := by
  intro p e R s m args below meth c QW C hEe H locs ls hP hS hL hSt a1 a2 a3
  obtain ⟨⟨hx, hb, hml, hown, hts⟩, ⟨hKt, hZt, hB0, hB1⟩, ⟨hf1, hf2, hf3, hf4⟩, hin, hHR, hHX⟩ := id C
  obtain ⟨⟨hor, -⟩, hSt1⟩ := zStk_c.mp hSt
  show W p l e R s m args below meth c H locs (n - n0) (zSZ n - zSZ n0) QW (F0 m pc ls (zc G (2, x) :: r.map (zc G)))
  rw [zc_ref (zRg_ref hor)]
  refine W.objInit hx hb hown (hts _ w1) (hts _ w2) (hts _ w3) rfl (by rw [hml]; exact hL.1) rfl hd (by omega) (by show 2 * 0 + ((r.map (zc G)).map fun v => v.category).sum + 12 ≤ R.locals; omega) ?_
  exact kk p e R s m args below meth c QW C hEe H locs ls hP hS hL hSt1 a1 a2 a3
theorem yzs_copy {Ee : yE} {l : Launch} {G : zG} {md d : Nat} {h : zHdr} {n0 : Nat} {Q : Int → zH → Prop} {QX : Nat → zH → Prop} {pc : Nat} {L r : List zV} {v : zH} {n : Nat} {idx : Nat} {a sp b dp c0 : Int} (hd : decode (hB h) pc = .ok (.invokestatic idx, 3)) (w1 : Jvm.Cond.methodLink (hO h) idx arraycopyName ∈ zws) (w2 : Jvm.Cond.native arraycopyName ∈ zws) (w3 : Jvm.Cond.static arraycopyName ∈ zws) (w4 : Jvm.Cond.initialized "java/lang/System" ∈ zws) (hd1 : 1 ≤ d) (hca : zCL a = 20) (hcb : zCL b = 20) (hr : 0 ≤ sp ∧ 0 ≤ dp ∧ 0 ≤ c0 ∧ sp + c0 ≤ zLN a ∧ dp + c0 ≤ zLN b)
    (hcat : ((r.map (zc G)).map fun v => v.category).sum ≤ 8) (kk : yJp Ee l G md d h n0 Q QX (pc + 3) L r (zcp v a sp b dp c0) n) : yJp Ee l G md d h n0 Q QX pc L ((0, c0) :: (0, dp) :: (2, b) :: (0, sp) :: (2, a) :: r) v n := by
  intro p e R s m args below meth c QW C hEe H locs ls hP hS hL hSt a1 a2 a3
  obtain ⟨⟨hx, hb, hml, hown, hts⟩, ⟨hKt, hZt, hB0, hB1⟩, ⟨hf1, hf2, hf3, hf4⟩, hin, hHR, hHX⟩ := id C
  obtain ⟨⟨hcr, -⟩, hSt1⟩ := zStk_c.mp hSt
  obtain ⟨⟨hdr, -⟩, hSt2⟩ := zStk_c.mp hSt1
  obtain ⟨⟨hbr, -⟩, hSt3⟩ := zStk_c.mp hSt2
  obtain ⟨⟨hsr, -⟩, hSt4⟩ := zStk_c.mp hSt3
  obtain ⟨⟨har, -⟩, hSt5⟩ := zStk_c.mp hSt4
  obtain ⟨i, rfl, hi, hci⟩ := zcell har hca (by omega)
  obtain ⟨k, rfl, hk, hck⟩ := zcell hbr hcb (by omega)
  obtain ⟨r1, r2, r3, r4, r5⟩ := hr
  have hcr : zI c0 := hcr
  have hdr : zI dp := hdr
  have hsr : zI sp := hsr
  show W p l e R s m args below meth c H locs (n - n0) (zSZ n - zSZ n0) QW (F0 m pc ls (.int (Int32.ofInt c0) :: .int (Int32.ofInt dp) :: zc G (2, (k : Int)) :: .int (Int32.ofInt sp) :: zc G (2, (i : Int)) :: r.map (zc G)))
  rw [zc_ref (by omega), zc_ref (by omega), zad_n, zad_n]
  refine va_copyi hx hb (hml.trans hL.1.symm) hown (hts _ w1) (hts _ w2) (hts _ w3) (hts _ w4) hKt hP.1 zW_D hS i k 0 0 (by rw [zW_get hi, zE_20 hci]) (by rw [zW_get hk, zE_20 hck]) rfl rfl rfl (fun q => by have := (z32_lt0 hsr).mp q; omega) (fun q => by have := (z32_lt0 hdr).mp q; omega) (fun q => by have := (z32_lt0 hcr).mp q; omega) (by rw [z32_clamp hsr, z32_clamp hcr]; omega) (by rw [z32_clamp hdr, z32_clamp hcr]; omega) (fun _ _ => rfl) (by omega) (Nat.le_trans (Nat.add_le_add_right hcat _) (Nat.le_trans (show 8 + (nativeFrameWords "java/lang/System" "arraycopy" 5 + 11) ≤ 60 by decide) (by omega))) hd (fun H1 locs1 q1 q2 q3 => ?_)
  rw [z32_clamp hsr, z32_clamp hdr, z32_clamp hcr, zW_set (v' := zcp v i sp k dp c0) hk (by rw [zE_20 hck, zcp_fun r1 r2 r3]) (fun j' _ hji => zE_congr fun _ => zcp_o (by omega))] at q1
  have hok : zOk md (zcp v i sp k dp c0) n := by
    intro i' hi' k'
    by_cases hik : i' = k
    · subst hik
      rw [zTg20 hck, zfv_big (by omega)]
      by_cases hh : dp ≤ (k' : Int) ∧ (k' : Int) < dp + c0
      · have h9 := zrow_rg (j := sp + ((k' : Int) - dp)) hP.2.2 hi (by omega) (by omega) (fun k => zTg20 (k := k) hci)
        unfold zcp
        rw [if_pos ⟨rfl, hh⟩]
        exact h9
      · have h9 := hP.2.2 i' hi' k'
        rw [zTg20 hck, zfv_big (by omega)] at h9
        unfold zcp
        rw [if_neg (fun q => hh q.2)]
        exact h9
    · have h9 := hP.2.2 i' hi' k'
      unfold zfv at h9 ⊢
      rw [zcp_o (by omega)]
      exact h9
  exact kk p e R s m args below meth c QW C hEe H1 locs1 ls ⟨q1, zP_lt q1 (by omega), hok⟩ q3 hL hSt5 a1 a2 a3
theorem yzs_ret {Ee : yE} {l : Launch} {G : zG} {md d : Nat} {h : zHdr} {n0 : Nat} {Q : Int → zH → Prop} {QX : Nat → zH → Prop} {pc : Nat} {L st : List zV} {v : zH} {n : Nat} {x : Int} {t : Nat} (hd : decode (hB h) pc = .ok (zRi t, 1)) (ht : hT h = t) (hst : st = zpsh t x []) (hn : n = n0 + hMc h) (hz : zSZ n ≤ zSZ n0 + hMs h) (hnr : t = 0 ∨ t = 4 → znr (hR h) x) (hq : Q x v) (h35 : t ≤ 4) : yJp Ee l G md d h n0 Q QX pc L st v n := by
  intro p e R s m args below meth c QW C hEe H locs ls hP hS hL hSt a1 a2 a3
  obtain ⟨⟨hx, hb, hml, hown, hts⟩, ⟨hKt, hZt, hB0, hB1⟩, ⟨hf1, hf2, hf3, hf4⟩, hin, hHR, hHX⟩ := id C
  subst hst
  subst ht
  have hrr : zRr n (hT h) x := by
    unfold zRr
    rcases (show hT h = 0 ∨ hT h = 1 ∨ hT h = 2 ∨ hT h = 3 ∨ hT h = 4 by omega) with q | q | q | q | q
    · rw [q] at hSt ⊢; exact (hSt _ List.mem_cons_self).1
    · rw [q] at hSt ⊢; exact (hSt _ List.mem_cons_self).1
    · rw [q] at hSt ⊢; exact (hSt _ List.mem_cons_self).1
    · rw [q]; trivial
    · rw [q] at hSt ⊢; exact (hSt _ List.mem_cons_self).1
  refine W.widen (k := hMc h) (n := hMs h) (by omega) (by omega) ?_
  exact hHR H locs ls pc n x v hq hP hS hrr hn hd hnr
theorem yzs_tsw {Ee : yE} {l : Launch} {G : zG} {md d : Nat} {h : zHdr} {n0 : Nat} {Q : Int → zH → Prop} {QX : Nat → zH → Prop} {pc : Nat} {L r : List zV} {v : zH} {n : Nat} {x : Int} {dflt lo hi : Int} {offs : Array Int} {len td : Nat} {code : List zIns} {ts : List Nat} (hd : decode (hB h) pc = .ok (.tableswitch dflt lo hi offs, len)) (hlen : hi - lo + 1 = (ts.length : Int)) (hol : offs.toList.length = ts.length) (hlo : -2147483648 ≤ lo) (hhi : hi ≤ 2147483647)
    (htd : (pc : Int) + dflt = (zpc code td : Int)) (hts0 : ∀ (k : Nat) (o : Int) (t : Nat), offs.toList[k]? = some o → ts[k]? = some t → (pc : Int) + o = (zpc code t : Int))
    (k1 : x < lo → yJp Ee l G md d h n0 Q QX (zpc code td) L r v n) (k2 : zsw x (fun t => yJp Ee l G md d h n0 Q QX (zpc code t) L r v n) td lo ts) : yJp Ee l G md d h n0 Q QX pc L ((0, x) :: r) v n := by
  intro p e R s m args below meth c QW C hEe H locs ls hP hS hL hSt a1 a2 a3
  obtain ⟨⟨hx, hb, hml, hown, hts⟩, ⟨hKt, hZt, hB0, hB1⟩, ⟨hf1, hf2, hf3, hf4⟩, hin, hHR, hHX⟩ := id C
  obtain ⟨⟨hxr, -⟩, hSt1⟩ := zStk_c.mp hSt
  have hxr : zI x := hxr
  show W p l e R s m args below meth c H locs (n - n0) (zSZ n - zSZ n0) QW (F0 m pc ls (.int (Int32.ofInt x) :: r.map (zc G)))
  by_cases h1 : x < lo
  · exact lv_tableOut hx hb hd (by rw [z32_toInt hxr]; exact Or.inl h1) htd (k1 h1 p e R s m args below meth c QW C hEe H locs ls hP hS hL hSt1 a1 a2 a3)
  · obtain ⟨i1, i2⟩ := zsw_ok ts lo k2 (by omega)
    by_cases h2 : hi < x
    · exact lv_tableOut hx hb hd (by rw [z32_toInt hxr]; exact Or.inr h2) htd (i2 (by omega) p e R s m args below meth c QW C hEe H locs ls hP hS hL hSt1 a1 a2 a3)
    · have hk : (x - lo).toNat < ts.length := by omega
      have ho : offs[(x - lo).toNat]? = some (offs.toList[(x - lo).toNat]'(by omega)) := by
        rw [← Array.getElem?_toList, List.getElem?_eq_getElem]
      exact lv_tableIn hx hb hd (by rw [z32_toInt hxr]; exact h1) (by rw [z32_toInt hxr]; exact h2) (by rw [z32_toInt hxr]; exact ho) (hts0 _ _ (ts[(x - lo).toNat]) (List.getElem?_eq_getElem _) (List.getElem?_eq_getElem hk)) (i1 _ (List.getElem?_eq_getElem hk) p e R s m args below meth c QW C hEe H locs ls hP hS hL hSt1 a1 a2 a3)
theorem yzs_lsw {Ee : yE} {l : Launch} {G : zG} {md d : Nat} {h : zHdr} {n0 : Nat} {Q : Int → zH → Prop} {QX : Nat → zH → Prop} {pc : Nat} {L r : List zV} {v : zH} {n : Nat} {x : Int} {dflt : Int} {ps : Array (Int × Int)} {len td : Nat} {code : List zIns} {ts : List Nat} (hd : decode (hB h) pc = .ok (.lookupswitch dflt ps, len)) (hol : ps.toList.length = ts.length) (hso : (ps.toList.zip (ps.toList.drop 1)).all (fun (a, next) => a.1 < next.1) = true)
    (htd : (pc : Int) + dflt = (zpc code td : Int)) (hts0 : ∀ (k : Nat) (o : Int × Int) (t : Nat), ps.toList[k]? = some o → ts[k]? = some t → (pc : Int) + o.2 = (zpc code t : Int))
    (k2 : zlk x (fun t => yJp Ee l G md d h n0 Q QX (zpc code t) L r v n) td ps.toList ts) : yJp Ee l G md d h n0 Q QX pc L ((0, x) :: r) v n := by
  intro p e R s m args below meth c QW C hEe H locs ls hP hS hL hSt a1 a2 a3
  obtain ⟨⟨hx, hb, hml, hown, hts⟩, ⟨hKt, hZt, hB0, hB1⟩, ⟨hf1, hf2, hf3, hf4⟩, hin, hHR, hHX⟩ := id C
  obtain ⟨⟨hxr, -⟩, hSt1⟩ := zStk_c.mp hSt
  have hxr : zI x := hxr
  show W p l e R s m args below meth c H locs (n - n0) (zSZ n - zSZ n0) QW (F0 m pc ls (.int (Int32.ofInt x) :: r.map (zc G)))
  obtain ⟨t, q1, q2⟩ := zlk_ok (g := fun o t => (pc : Int) + o = (zpc code t : Int)) ps.toList ts hol k2 htd hts0
  exact lv_lookup hx hb hd hso rfl (by rw [z32_toInt hxr]; exact q2) (q1 p e R s m args below meth c QW C hEe H locs ls hP hS hL hSt1 a1 a2 a3)
theorem yzs_mmax {Ee : yE} {l : Launch} {G : zG} {md d : Nat} {h : zHdr} {n0 : Nat} {Q : Int → zH → Prop} {QX : Nat → zH → Prop} {pc : Nat} {L r : List zV} {v : zH} {n : Nat} {x y : Int} {idx : Nat} (hd : decode (hB h) pc = .ok (.invokestatic idx, 3)) (w1 : Jvm.Cond.methodLink (hO h) idx Lib.Math.max.name ∈ zws) (w2 : Jvm.Cond.static Lib.Math.max.name ∈ zws) (w3 : Jvm.Cond.initialized "java/lang/Math" ∈ zws) (w4 : Jvm.Cond.code Lib.Math.max.name Lib.Math.max.code 2 (some .int) ∈ zws) (hd1 : 1 ≤ d) (hcat : ((r.map (zc G)).map fun v => v.category).sum ≤ 8) (kk : yJp Ee l G md d h n0 Q QX (pc + 3) L ((0, max x y) :: r) v n) : yJp Ee l G md d h n0 Q QX pc L ((0, y) :: (0, x) :: r) v n := by
  intro p e R s m args below meth c QW C hEe H locs ls hP hS hL hSt a1 a2 a3
  obtain ⟨⟨hx, hb, hml, hown, hts⟩, ⟨hKt, hZt, hB0, hB1⟩, ⟨hf1, hf2, hf3, hf4⟩, hin, hHR, hHX⟩ := id C
  obtain ⟨⟨hy, -⟩, hSt1⟩ := zStk_c.mp hSt
  obtain ⟨⟨hxx, -⟩, hSt2⟩ := zStk_c.mp hSt1
  have hy : zI y := hy
  have hxx : zI x := hxx
  show W p l e R s m args below meth c H locs (n - n0) (zSZ n - zSZ n0) QW (F0 m pc ls (.int (Int32.ofInt y) :: .int (Int32.ofInt x) :: r.map (zc G)))
  refine va_mmax hx hb (hml.trans hL.1.symm) hown (hts _ w1) (hts _ w2) (hts _ w3) (hts _ w4) (by omega) (by omega) (by omega) (by omega) hd ?_
  have e1 : (if Int32.ofInt x < Int32.ofInt y then Int32.ofInt y else Int32.ofInt x) = Int32.ofInt (max x y) := by
    by_cases q : x < y
    · rw [if_pos ((z32_lt hxx hy).mpr q), Int.max_eq_right (by omega)]
    · rw [if_neg (fun z => q ((z32_lt hxx hy).mp z)), Int.max_eq_left (by omega)]
  rw [e1]
  have hres : zI (max x y) := ⟨by have := hxx.1; have := hy.1; omega, by have := hxx.2; have := hy.2; omega⟩
  exact kk p e R s m args below meth c QW C hEe H locs ls hP hS hL (zStk_c.mpr ⟨⟨hres, by simp⟩, hSt2⟩) a1 a2 a3
theorem yzs_mmin {Ee : yE} {l : Launch} {G : zG} {md d : Nat} {h : zHdr} {n0 : Nat} {Q : Int → zH → Prop} {QX : Nat → zH → Prop} {pc : Nat} {L r : List zV} {v : zH} {n : Nat} {x y : Int} {idx : Nat} (hd : decode (hB h) pc = .ok (.invokestatic idx, 3)) (w1 : Jvm.Cond.methodLink (hO h) idx Lib.Math.min.name ∈ zws) (w2 : Jvm.Cond.static Lib.Math.min.name ∈ zws) (w3 : Jvm.Cond.initialized "java/lang/Math" ∈ zws) (w4 : Jvm.Cond.code Lib.Math.min.name Lib.Math.min.code 2 (some .int) ∈ zws) (hd1 : 1 ≤ d) (hcat : ((r.map (zc G)).map fun v => v.category).sum ≤ 8) (kk : yJp Ee l G md d h n0 Q QX (pc + 3) L ((0, min x y) :: r) v n) : yJp Ee l G md d h n0 Q QX pc L ((0, y) :: (0, x) :: r) v n := by
  intro p e R s m args below meth c QW C hEe H locs ls hP hS hL hSt a1 a2 a3
  obtain ⟨⟨hx, hb, hml, hown, hts⟩, ⟨hKt, hZt, hB0, hB1⟩, ⟨hf1, hf2, hf3, hf4⟩, hin, hHR, hHX⟩ := id C
  obtain ⟨⟨hy, -⟩, hSt1⟩ := zStk_c.mp hSt
  obtain ⟨⟨hxx, -⟩, hSt2⟩ := zStk_c.mp hSt1
  have hy : zI y := hy
  have hxx : zI x := hxx
  show W p l e R s m args below meth c H locs (n - n0) (zSZ n - zSZ n0) QW (F0 m pc ls (.int (Int32.ofInt y) :: .int (Int32.ofInt x) :: r.map (zc G)))
  refine va_mmin hx hb (hml.trans hL.1.symm) hown (hts _ w1) (hts _ w2) (hts _ w3) (hts _ w4) (by omega) (by omega) (by omega) (by omega) hd ?_
  have e1 : (if Int32.ofInt y < Int32.ofInt x then Int32.ofInt y else Int32.ofInt x) = Int32.ofInt (min x y) := by
    by_cases q : y < x
    · rw [if_pos ((z32_lt hy hxx).mpr q), Int.min_eq_right (by omega)]
    · rw [if_neg (fun z => q ((z32_lt hy hxx).mp z)), Int.min_eq_left (by omega)]
  rw [e1]
  have hres : zI (min x y) := ⟨by have := hxx.1; have := hy.1; omega, by have := hxx.2; have := hy.2; omega⟩
  exact kk p e R s m args below meth c QW C hEe H locs ls hP hS hL (zStk_c.mpr ⟨⟨hres, by simp⟩, hSt2⟩) a1 a2 a3
theorem yzs_mabs {Ee : yE} {l : Launch} {G : zG} {md d : Nat} {h : zHdr} {n0 : Nat} {Q : Int → zH → Prop} {QX : Nat → zH → Prop} {pc : Nat} {L r : List zV} {v : zH} {n : Nat} {x : Int} {idx : Nat} (hd : decode (hB h) pc = .ok (.invokestatic idx, 3)) (w1 : Jvm.Cond.methodLink (hO h) idx Lib.Math.abs.name ∈ zws) (w2 : Jvm.Cond.static Lib.Math.abs.name ∈ zws) (w3 : Jvm.Cond.initialized "java/lang/Math" ∈ zws) (w4 : Jvm.Cond.code Lib.Math.abs.name Lib.Math.abs.code 1 (some .int) ∈ zws) (hd1 : 1 ≤ d) (hcat : ((r.map (zc G)).map fun v => v.category).sum ≤ 8) (hneg : zI (-x)) (kk : yJp Ee l G md d h n0 Q QX (pc + 3) L ((0, (x.natAbs : Int)) :: r) v n) : yJp Ee l G md d h n0 Q QX pc L ((0, x) :: r) v n := by
  intro p e R s m args below meth c QW C hEe H locs ls hP hS hL hSt a1 a2 a3
  obtain ⟨⟨hx, hb, hml, hown, hts⟩, ⟨hKt, hZt, hB0, hB1⟩, ⟨hf1, hf2, hf3, hf4⟩, hin, hHR, hHX⟩ := id C
  obtain ⟨⟨hxx, -⟩, hSt2⟩ := zStk_c.mp hSt
  have hxx : zI x := hxx
  show W p l e R s m args below meth c H locs (n - n0) (zSZ n - zSZ n0) QW (F0 m pc ls (.int (Int32.ofInt x) :: r.map (zc G)))
  refine va_mabs hx hb (hml.trans hL.1.symm) hown (hts _ w1) (hts _ w2) (hts _ w3) (hts _ w4) (by omega) (by omega) (by omega) (by omega) hd ?_
  have hres : zI (x.natAbs : Int) := ⟨by omega, by have := hxx.2; have := hneg.2; omega⟩
  have e1 : (if 0 ≤ Int32.ofInt x then Int32.ofInt x else 0 - Int32.ofInt x) = Int32.ofInt (x.natAbs : Int) := by
    by_cases q : 0 ≤ x
    · rw [if_pos ((z32_ge0 hxx).mpr q), show (x.natAbs : Int) = x by omega]
    · rw [if_neg (fun z => q ((z32_ge0 hxx).mp z)), show (x.natAbs : Int) = 0 - x by omega, Int32.ofInt_sub]
      rfl
  rw [e1]
  exact kk p e R s m args below meth c QW C hEe H locs ls hP hS hL (zStk_c.mpr ⟨⟨hres, by simp⟩, hSt2⟩) a1 a2 a3
theorem yzs_mmaxl {Ee : yE} {l : Launch} {G : zG} {md d : Nat} {h : zHdr} {n0 : Nat} {Q : Int → zH → Prop} {QX : Nat → zH → Prop} {pc : Nat} {L r : List zV} {v : zH} {n : Nat} {x y : Int} {idx : Nat} (hd : decode (hB h) pc = .ok (.invokestatic idx, 3)) (w1 : Jvm.Cond.methodLink (hO h) idx Lib.MathLoose.max_long.x ∈ zws) (w2 : Jvm.Cond.static Lib.MathLoose.max_long.x ∈ zws) (w3 : Jvm.Cond.initialized "java/lang/Math" ∈ zws) (w4 : Jvm.Cond.code Lib.MathLoose.max_long.x Lib.MathLoose.max_long.code 4 (some .long) ∈ zws) (hd1 : 1 ≤ d) (hcat : ((r.map (zc G)).map fun v => v.category).sum ≤ 8) (kk : yJp Ee l G md d h n0 Q QX (pc + 3) L ((1, max x y) :: r) v n) : yJp Ee l G md d h n0 Q QX pc L ((1, y) :: (1, x) :: r) v n := by
  intro p e R s m args below meth c QW C hEe H locs ls hP hS hL hSt a1 a2 a3
  obtain ⟨⟨hx, hb, hml, hown, hts⟩, ⟨hKt, hZt, hB0, hB1⟩, ⟨hf1, hf2, hf3, hf4⟩, hin, hHR, hHX⟩ := id C
  obtain ⟨⟨hy, -⟩, hSt1⟩ := zStk_c.mp hSt
  obtain ⟨⟨hxx, -⟩, hSt2⟩ := zStk_c.mp hSt1
  have hy : zLg y := hy
  have hxx : zLg x := hxx
  show W p l e R s m args below meth c H locs (n - n0) (zSZ n - zSZ n0) QW (F0 m pc ls (.long (Int64.ofInt y) :: .long (Int64.ofInt x) :: r.map (zc G)))
  refine va_mmax_long hx hb (hml.trans hL.1.symm) hown (hts _ w1) (hts _ w2) (hts _ w3) (hts _ w4) (by omega) (by omega) (by omega) (by omega) hd ?_
  have e1 : (if Int64.ofInt y < Int64.ofInt x then Int64.ofInt x else Int64.ofInt y) = Int64.ofInt (max x y) := by
    by_cases q : y < x
    · rw [if_pos ((z64_lt hy hxx).mpr q), Int.max_eq_left (by omega)]
    · rw [if_neg (fun z => q ((z64_lt hy hxx).mp z)), Int.max_eq_right (by omega)]
  rw [e1]
  have hres : zLg (max x y) := ⟨by have := hxx.1; have := hy.1; omega, by have := hxx.2; have := hy.2; omega⟩
  exact kk p e R s m args below meth c QW C hEe H locs ls hP hS hL (zStk_c.mpr ⟨⟨hres, by simp⟩, hSt2⟩) a1 a2 a3
theorem yzs_mminl {Ee : yE} {l : Launch} {G : zG} {md d : Nat} {h : zHdr} {n0 : Nat} {Q : Int → zH → Prop} {QX : Nat → zH → Prop} {pc : Nat} {L r : List zV} {v : zH} {n : Nat} {x y : Int} {idx : Nat} (hd : decode (hB h) pc = .ok (.invokestatic idx, 3)) (w1 : Jvm.Cond.methodLink (hO h) idx Lib.MathLoose.min_long.x ∈ zws) (w2 : Jvm.Cond.static Lib.MathLoose.min_long.x ∈ zws) (w3 : Jvm.Cond.initialized "java/lang/Math" ∈ zws) (w4 : Jvm.Cond.code Lib.MathLoose.min_long.x Lib.MathLoose.min_long.code 4 (some .long) ∈ zws) (hd1 : 1 ≤ d) (hcat : ((r.map (zc G)).map fun v => v.category).sum ≤ 8) (kk : yJp Ee l G md d h n0 Q QX (pc + 3) L ((1, min x y) :: r) v n) : yJp Ee l G md d h n0 Q QX pc L ((1, y) :: (1, x) :: r) v n := by
  intro p e R s m args below meth c QW C hEe H locs ls hP hS hL hSt a1 a2 a3
  obtain ⟨⟨hx, hb, hml, hown, hts⟩, ⟨hKt, hZt, hB0, hB1⟩, ⟨hf1, hf2, hf3, hf4⟩, hin, hHR, hHX⟩ := id C
  obtain ⟨⟨hy, -⟩, hSt1⟩ := zStk_c.mp hSt
  obtain ⟨⟨hxx, -⟩, hSt2⟩ := zStk_c.mp hSt1
  have hy : zLg y := hy
  have hxx : zLg x := hxx
  show W p l e R s m args below meth c H locs (n - n0) (zSZ n - zSZ n0) QW (F0 m pc ls (.long (Int64.ofInt y) :: .long (Int64.ofInt x) :: r.map (zc G)))
  refine va_mmin_long hx hb (hml.trans hL.1.symm) hown (hts _ w1) (hts _ w2) (hts _ w3) (hts _ w4) (by omega) (by omega) (by omega) (by omega) hd ?_
  have e1 : (if Int64.ofInt y < Int64.ofInt x then Int64.ofInt y else Int64.ofInt x) = Int64.ofInt (min x y) := by
    by_cases q : y < x
    · rw [if_pos ((z64_lt hy hxx).mpr q), Int.min_eq_right (by omega)]
    · rw [if_neg (fun z => q ((z64_lt hy hxx).mp z)), Int.min_eq_left (by omega)]
  rw [e1]
  have hres : zLg (min x y) := ⟨by have := hxx.1; have := hy.1; omega, by have := hxx.2; have := hy.2; omega⟩
  exact kk p e R s m args below meth c QW C hEe H locs ls hP hS hL (zStk_c.mpr ⟨⟨hres, by simp⟩, hSt2⟩) a1 a2 a3

