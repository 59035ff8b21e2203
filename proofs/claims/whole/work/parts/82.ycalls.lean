/-! the same rows over contexts of which more is known -/
theorem yzs_callS {Ee : yE} {l : Launch} {G : zG} {md d : Nat} {h : zHdr} {n0 : Nat} {Q : Int → zH → Prop} {QX : Nat → zH → Prop} {pc : Nat} {L : List zV} {v : zH} {n : Nat} {hc : zHdr} {As rest : List zV} {Q1 : Int → zH → Prop} {idx ic : Nat} (hd : decode (hB h) pc = .ok (.invokestatic idx, 3)) (hm : zmokP hc) (hcode : zcode ic hc = true) (hT4 : hT hc ≤ 4) (hcat : zcats rest ≤ 8) (hn : As.length = hN hc) (w1 : Jvm.Cond.methodLink (hO h) idx (hY hc) ∈ zws) (w2 : Jvm.Cond.static (hY hc) ∈ zws) (w3 : Jvm.Cond.initialized (hY hc).cls ∈ zws) (hbud : zbudget h n0 n (hMc hc) (hMs hc))
    (hC : zC l G md d hc As v n Q1) (kk : ∀ (r1 : Int) (v1 : zH), Q1 r1 v1 → yJp Ee l G md (d + 1) h n0 Q QX (pc + 3) L (zpsh (hT hc) r1 rest) v1 (n + hMc hc)) : yJp Ee l G md (d + 1) h n0 Q QX pc L (As.reverse ++ rest) v n := by
  intro p e R s m args below meth c QW C hEe H locs ls hP hS hLs hSt a1 a2 a3
  obtain ⟨⟨hx, hb, hml, hown, hts⟩, ⟨hKt, hZt, hB0, hB1⟩, ⟨hf1, hf2, hf3, hf4⟩, hin, hHR, hHX⟩ := id C
  refine zW_size fun hsz => ?_
  have hStA : zStk n As := fun q hq => hSt q (List.mem_append_left _ (List.mem_reverse.mpr hq))
  have hStR : zStk n rest := fun q hq => hSt q (List.mem_append_right _ hq)
  obtain ⟨b1, b2, b3⟩ := hbud
  have hgood := zWs_good hcode
  have hzm := zSZ_mono a1
  have hcat2 : ((rest.map (zc G)).map fun v => v.category).sum ≤ 8 := Nat.le_trans (zcats_ok rest) hcat
  have hsz0 : md = 0 → H.size = zgB G + n := fun q => by have := hB1 q; have := hP.2.1; omega
  have hT0 : GoodIn zws (va_wsS (hO h) idx (hY hc) (zWs hc)) := by
    intro w hw
    unfold va_wsS at hw
    rcases List.mem_append.mp hw with hw | hw
    · rcases List.mem_cons.mp hw with rfl | hw
      · exact zws_good _ w1
      · rcases List.mem_cons.mp hw with rfl | hw
        · exact zws_good _ w2
        · rw [List.mem_singleton.mp hw]
          exact zws_good _ w3
    · exact hgood w hw
  have hrun := va_runS (As := As.map (zc G)) (rest := rest.map (zc G)) (g := F0 m pc ls ((As.reverse ++ rest).map (zc G))) ⟨hx, hb, hml, hown, hts⟩ hC (va_cwS (hN hc) hts hT0 rfl rfl rfl ⟨hm.1.1, hm.1.2, hm.2.1⟩ ⟨by show d + 1 ≤ R.frames; omega, by show 8 + (hL hc + 11) + 60 * d ≤ R.locals; have := hm.2.2.1; omega⟩) ⟨zPc_blind, zPc_pre hP hKt hZt hS hStA hsz0⟩ rfl (by rw [List.length_map]; exact hn) hLs.1 (by show (As.reverse ++ rest).map (zc G) = _; rw [List.map_append, List.map_reverse]) (lv_room hcat2) hd (cells := n - n0) (slots := zSZ n - zSZ n0) (e := e) (below := below) (meth := meth) (locs := locs) ⟨by omega, by omega⟩
  refine z_back hrun hS fun r1 v1 H1 locs1 q1 q2 q3 q4 => ?_
  have key := kk r1 v1 q1 p e R s m args below meth c QW C hEe H1 locs1 ls q2 q4 (zL_mono hLs (by omega)) (zrr_psh hT4 q3 (zStk_mono hStR (by omega))) (by omega) (by omega) (by omega)
  rw [zret_psh hT4, show n + hMc hc - n0 = n - n0 + hMc hc by omega, show zSZ (n + hMc hc) - zSZ n0 = zSZ n - zSZ n0 + hMs hc by omega] at key
  exact key
theorem yzs_callV {Ee : yE} {l : Launch} {G : zG} {md d : Nat} {h : zHdr} {n0 : Nat} {Q : Int → zH → Prop} {QX : Nat → zH → Prop} {pc : Nat} {L : List zV} {v : zH} {n : Nat} {hc : zHdr} {As rest : List zV} {Q1 : Int → zH → Prop} {idx ic : Nat} {o : Int} {rc : Nat} (hd : decode (hB h) pc = .ok (.invokevirtual idx, 3)) (hm : zmokP hc) (hcode : zcode ic hc = true) (hT4 : hT hc ≤ 4) (hcat : zcats rest ≤ 8) (hn : As.length = hN hc) (w1 : Jvm.Cond.methodLink (hO h) idx (hY hc) ∈ zws) (w2 : Jvm.Cond.instanceMethod (hY hc) ∈ zws) (w3 : Jvm.Cond.selects (zrcn rc) (hY hc) (hY hc) ∈ zws) (w4 : Jvm.Cond.initialized (zrcn rc) ∈ zws) (hcn : (hY hc).cls = zrcn rc) (hrc : rc < 12 ∨ rc = 26) (hcl : zCL o = rc) (hbud : zbudget h n0 n (hMc hc) (hMs hc))
    (hC : zC l G md d hc ((2, o) :: As) v n Q1) (kk : ∀ (r1 : Int) (v1 : zH), Q1 r1 v1 → yJp Ee l G md (d + 1) h n0 Q QX (pc + 3) L (zpsh (hT hc) r1 rest) v1 (n + hMc hc)) : yJp Ee l G md (d + 1) h n0 Q QX pc L (As.reverse ++ (2, o) :: rest) v n := by
  intro p e R s m args below meth c QW C hEe H locs ls hP hS hLs hSt a1 a2 a3
  obtain ⟨⟨hx, hb, hml, hown, hts⟩, ⟨hKt, hZt, hB0, hB1⟩, ⟨hf1, hf2, hf3, hf4⟩, hin, hHR, hHX⟩ := id C
  refine zW_size fun hsz => ?_
  have hStA : zStk n ((2, o) :: As) := by
    refine zStk_c.mpr ⟨hSt (2, o) (List.mem_append_right _ List.mem_cons_self), fun q hq => hSt q (List.mem_append_left _ (List.mem_reverse.mpr hq))⟩
  have hStR : zStk n rest := fun q hq => hSt q (List.mem_append_right _ (List.mem_cons_of_mem _ hq))
  have hor := (zStk_c.mp hStA).1.1
  have e0 : zc G (2, o) = .ref (zad G o) := zc_ref (zRg_ref hor)
  obtain ⟨b1, b2, b3⟩ := hbud
  have hgood := zWs_good hcode
  have hzm := zSZ_mono a1
  have hcat2 : ((rest.map (zc G)).map fun v => v.category).sum ≤ 8 := Nat.le_trans (zcats_ok rest) hcat
  have hsz0 : md = 0 → H.size = zgB G + n := fun q => by have := hB1 q; have := hP.2.1; omega
  have hrecv : ∃ cellB : Cell, H[zad G o]? = some cellB ∧ cellB.vm.isStatics = false ∧ s.vm.findClass (zrcn rc) = some cellB.cls := by
    rcases hrc with h12 | h26
    · obtain ⟨i, rfl, hi, hci⟩ := zcell hor hcl (by omega)
      rw [zad_n]
      have := va_recv hKt hP.1 (ci := rc) (q0 := i) (zcr_get h12) (by rw [zW_get hi, zE_o hci h12])
      unfold zrcn
      rw [if_neg (by omega)]
      exact this
    · subst h26
      obtain ⟨k, hk, rfl⟩ := zsc hor hcl
      rw [zad_s (by omega)]
      exact va_Orecv (hZt.2.2.2.1 k hk).1 hS
  have hT0 : GoodIn zws (wsV (hO h) idx (zrcn rc) (hY hc) (zWs hc)) := by
    intro w hw
    unfold wsV at hw
    rcases List.mem_append.mp hw with hw | hw
    · rcases List.mem_cons.mp hw with rfl | hw
      · exact zws_good _ w1
      · rcases List.mem_cons.mp hw with rfl | hw
        · exact zws_good _ w2
        · rcases List.mem_cons.mp hw with rfl | hw
          · exact zws_good _ w3
          · rw [List.mem_singleton.mp hw]
            exact zws_good _ w4
    · exact hgood w hw
  have hrun := va_runV (As := As.map (zc G)) (rest := rest.map (zc G)) (g := F0 m pc ls ((As.reverse ++ (2, o) :: rest).map (zc G))) ⟨hx, hb, hml, hown, hts⟩ hC (cwV (hN hc) hts hT0 rfl rfl rfl ⟨hcn, hm.1.1, hm.1.2, hm.2.1⟩ ⟨by show d + 1 ≤ R.frames; omega, by show 8 + (hL hc + 11) + 60 * d ≤ R.locals; have := hm.2.2.1; omega⟩) ⟨zPc_blind, hrecv, fun U hU hW => by have q := zPc_pre hP hKt hZt hS hStA hsz0 U hU hW; rw [List.map_cons, e0] at q; exact q⟩ rfl (by rw [List.length_map]; exact hn) hLs.1 (by show (As.reverse ++ (2, o) :: rest).map (zc G) = _; rw [List.map_append, List.map_reverse, List.map_cons, e0]) (lv_room hcat2) hd (cells := n - n0) (slots := zSZ n - zSZ n0) (e := e) (below := below) (meth := meth) (locs := locs) ⟨by omega, by omega⟩
  refine z_back hrun hS fun r1 v1 H1 locs1 q1 q2 q3 q4 => ?_
  have key := kk r1 v1 q1 p e R s m args below meth c QW C hEe H1 locs1 ls q2 q4 (zL_mono hLs (by omega)) (zrr_psh hT4 q3 (zStk_mono hStR (by omega))) (by omega) (by omega) (by omega)
  rw [zret_psh hT4, show n + hMc hc - n0 = n - n0 + hMc hc by omega, show zSZ (n + hMc hc) - zSZ n0 = zSZ n - zSZ n0 + hMs hc by omega] at key
  exact key
theorem yzs_callU {Ee : yE} {l : Launch} {G : zG} {md d : Nat} {h : zHdr} {n0 : Nat} {Q : Int → zH → Prop} {QX : Nat → zH → Prop} {pc : Nat} {L : List zV} {v : zH} {n : Nat} {hc : zHdr} {As rest : List zV} {Q1 : Int → zH → Prop} {idx ic : Nat} {o : Int} {rc : Nat} {x : MethodName} (hd : decode (hB h) pc = .ok (.invokevirtual idx, 3)) (hm : zmokP hc) (hcode : zcode ic hc = true) (hT4 : hT hc ≤ 4) (hcat : zcats rest ≤ 8) (hn : As.length = hN hc) (w1 : Jvm.Cond.methodLink (hO h) idx x ∈ zws) (w2 : Jvm.Cond.sameMethod x.cls (hY hc).cls x.name x.desc ∈ zws) (w3 : Jvm.Cond.selects (zrcn rc) x (hY hc) ∈ zws) (w4 : Jvm.Cond.instanceMethod (hY hc) ∈ zws) (w5 : Jvm.Cond.initialized (hY hc).cls ∈ zws) (hyx : hY hc = ⟨(hY hc).cls, x.name, x.desc⟩) (hxd : (parseMethodDescriptor x.desc).map (fun d => d.parameters.length) = some (hN hc)) (hrc : rc < 12 ∨ rc = 26) (hcl : zCL o = rc) (hbud : zbudget h n0 n (hMc hc) (hMs hc))
    (hC : zC l G md d hc ((2, o) :: As) v n Q1) (kk : ∀ (r1 : Int) (v1 : zH), Q1 r1 v1 → yJp Ee l G md (d + 1) h n0 Q QX (pc + 3) L (zpsh (hT hc) r1 rest) v1 (n + hMc hc)) : yJp Ee l G md (d + 1) h n0 Q QX pc L (As.reverse ++ (2, o) :: rest) v n := by
  intro p e R s m args below meth c QW C hEe H locs ls hP hS hLs hSt a1 a2 a3
  obtain ⟨⟨hx, hb, hml, hown, hts⟩, ⟨hKt, hZt, hB0, hB1⟩, ⟨hf1, hf2, hf3, hf4⟩, hin, hHR, hHX⟩ := id C
  refine zW_size fun hsz => ?_
  have hStA : zStk n ((2, o) :: As) := by
    refine zStk_c.mpr ⟨hSt (2, o) (List.mem_append_right _ List.mem_cons_self), fun q hq => hSt q (List.mem_append_left _ (List.mem_reverse.mpr hq))⟩
  have hStR : zStk n rest := fun q hq => hSt q (List.mem_append_right _ (List.mem_cons_of_mem _ hq))
  have hor := (zStk_c.mp hStA).1.1
  have e0 : zc G (2, o) = .ref (zad G o) := zc_ref (zRg_ref hor)
  obtain ⟨b1, b2, b3⟩ := hbud
  have hgood := zWs_good hcode
  have hzm := zSZ_mono a1
  have hcat2 : ((rest.map (zc G)).map fun v => v.category).sum ≤ 8 := Nat.le_trans (zcats_ok rest) hcat
  have hsz0 : md = 0 → H.size = zgB G + n := fun q => by have := hB1 q; have := hP.2.1; omega
  have hrecv : ∃ cellB : Cell, H[zad G o]? = some cellB ∧ cellB.vm.isStatics = false ∧ s.vm.findClass (zrcn rc) = some cellB.cls := by
    rcases hrc with h12 | h26
    · obtain ⟨i, rfl, hi, hci⟩ := zcell hor hcl (by omega)
      rw [zad_n]
      have := va_recv hKt hP.1 (ci := rc) (q0 := i) (zcr_get h12) (by rw [zW_get hi, zE_o hci h12])
      unfold zrcn
      rw [if_neg (by omega)]
      exact this
    · subst h26
      obtain ⟨k, hk, rfl⟩ := zsc hor hcl
      rw [zad_s (by omega)]
      exact va_Orecv (hZt.2.2.2.1 k hk).1 hS
  have hT0 : GoodIn zws (va_wsU (hO h) idx (zrcn rc) (hY hc).cls x (hY hc) (zWs hc)) := by
    intro w hw
    unfold va_wsU at hw
    rcases List.mem_append.mp hw with hw | hw
    · rcases List.mem_cons.mp hw with rfl | hw
      · exact zws_good _ w1
      · rcases List.mem_cons.mp hw with rfl | hw
        · exact zws_good _ w2
        · rcases List.mem_cons.mp hw with rfl | hw
          · exact zws_good _ w3
          · rcases List.mem_cons.mp hw with rfl | hw
            · exact zws_good _ w4
            · rw [List.mem_singleton.mp hw]
              exact zws_good _ w5
    · exact hgood w hw
  have hrun := va_runU (As := As.map (zc G)) (rest := rest.map (zc G)) (g := F0 m pc ls ((As.reverse ++ (2, o) :: rest).map (zc G))) ⟨hx, hb, hml, hown, hts⟩ hC (va_cwU (hN hc) hts hT0 rfl rfl rfl hyx ⟨hm.1.1, hm.1.2, hxd⟩ ⟨by show d + 1 ≤ R.frames; omega, by show 8 + (hL hc + 11) + 60 * d ≤ R.locals; have := hm.2.2.1; omega⟩) ⟨zPc_blind, hrecv, fun U hU hW => by have q := zPc_pre hP hKt hZt hS hStA hsz0 U hU hW; rw [List.map_cons, e0] at q; exact q⟩ rfl (by rw [List.length_map]; exact hn) hLs.1 (by show (As.reverse ++ (2, o) :: rest).map (zc G) = _; rw [List.map_append, List.map_reverse, List.map_cons, e0]) (lv_room hcat2) hd (cells := n - n0) (slots := zSZ n - zSZ n0) (e := e) (below := below) (meth := meth) (locs := locs) ⟨by omega, by omega⟩
  refine z_back hrun hS fun r1 v1 H1 locs1 q1 q2 q3 q4 => ?_
  have key := kk r1 v1 q1 p e R s m args below meth c QW C hEe H1 locs1 ls q2 q4 (zL_mono hLs (by omega)) (zrr_psh hT4 q3 (zStk_mono hStR (by omega))) (by omega) (by omega) (by omega)
  rw [zret_psh hT4, show n + hMc hc - n0 = n - n0 + hMc hc by omega, show zSZ (n + hMc hc) - zSZ n0 = zSZ n - zSZ n0 + hMs hc by omega] at key
  exact key
theorem yzs_callI {Ee : yE} {l : Launch} {G : zG} {md d : Nat} {h : zHdr} {n0 : Nat} {Q : Int → zH → Prop} {QX : Nat → zH → Prop} {pc : Nat} {L : List zV} {v : zH} {n : Nat} {hc : zHdr} {As rest : List zV} {Q1 : Int → zH → Prop} {idx ic : Nat} {o : Int} (hd : decode (hB h) pc = .ok (.invokespecial idx, 3)) (hm : zmokP hc) (hcode : zcode ic hc = true) (hT4 : hT hc ≤ 4) (hcat : zcats rest ≤ 8) (hn : As.length = hN hc) (w1 : Jvm.Cond.methodLink (hO h) idx (hY hc) ∈ zws) (w2 : Jvm.Cond.initialized (hY hc).cls ∈ zws) (w3 : Jvm.Cond.instanceMethod (hY hc) ∈ zws) (hnm : (hY hc).name = "<init>") (hRn : hR hc = none) (hbud : zbudget h n0 n (hMc hc) (hMs hc))
    (hC : zC l G md d hc ((2, o) :: As) v n Q1) (kk : ∀ (r1 : Int) (v1 : zH), Q1 r1 v1 → yJp Ee l G md (d + 1) h n0 Q QX (pc + 3) L (zpsh (hT hc) r1 rest) v1 (n + hMc hc)) : yJp Ee l G md (d + 1) h n0 Q QX pc L (As.reverse ++ (2, o) :: rest) v n := by
  intro p e R s m args below meth c QW C hEe H locs ls hP hS hLs hSt a1 a2 a3
  obtain ⟨⟨hx, hb, hml, hown, hts⟩, ⟨hKt, hZt, hB0, hB1⟩, ⟨hf1, hf2, hf3, hf4⟩, hin, hHR, hHX⟩ := id C
  refine zW_size fun hsz => ?_
  have hStA : zStk n ((2, o) :: As) := by
    refine zStk_c.mpr ⟨hSt (2, o) (List.mem_append_right _ List.mem_cons_self), fun q hq => hSt q (List.mem_append_left _ (List.mem_reverse.mpr hq))⟩
  have hStR : zStk n rest := fun q hq => hSt q (List.mem_append_right _ (List.mem_cons_of_mem _ hq))
  have hor := (zStk_c.mp hStA).1.1
  have e0 : zc G (2, o) = .ref (zad G o) := zc_ref (zRg_ref hor)
  obtain ⟨b1, b2, b3⟩ := hbud
  have hgood := zWs_good hcode
  have hzm := zSZ_mono a1
  have hcat2 : ((rest.map (zc G)).map fun v => v.category).sum ≤ 8 := Nat.le_trans (zcats_ok rest) hcat
  have hsz0 : md = 0 → H.size = zgB G + n := fun q => by have := hB1 q; have := hP.2.1; omega
  have hrun := va_runI (bytes := hB hc) (maxL := hL hc) (As := As.map (zc G)) (rest := rest.map (zc G)) (g := F0 m pc ls ((As.reverse ++ (2, o) :: rest).map (zc G))) ⟨hx, hb, hml, hown, hts⟩ hC (cwI (hN hc) hts hgood (by rw [zWs, hRn]) rfl rfl (hts _ w2) (hts _ w1) (hts _ w3) hnm ⟨hm.1.1, hm.1.2, hm.2.1⟩ ⟨by show d + 1 ≤ R.frames; omega, by show 8 + (hL hc + 11) + 60 * d ≤ R.locals; have := hm.2.2.1; omega⟩) ⟨zPc_blind, fun U hU hW => by have q := zPc_pre hP hKt hZt hS hStA hsz0 U hU hW; rw [List.map_cons, e0] at q; exact q⟩ rfl (by rw [List.length_map]; exact hn) hLs.1 (by show (As.reverse ++ (2, o) :: rest).map (zc G) = _; rw [List.map_append, List.map_reverse, List.map_cons, e0]) (lv_room hcat2) hd (cells := n - n0) (slots := zSZ n - zSZ n0) (e := e) (below := below) (meth := meth) (locs := locs) ⟨by omega, by omega⟩
  refine z_back hrun hS fun r1 v1 H1 locs1 q1 q2 q3 q4 => ?_
  have key := kk r1 v1 q1 p e R s m args below meth c QW C hEe H1 locs1 ls q2 q4 (zL_mono hLs (by omega)) (zrr_psh hT4 q3 (zStk_mono hStR (by omega))) (by omega) (by omega) (by omega)
  rw [zret_psh hT4, show n + hMc hc - n0 = n - n0 + hMc hc by omega, show zSZ (n + hMc hc) - zSZ n0 = zSZ n - zSZ n0 + hMs hc by omega] at key
  exact key
theorem yzs_callIN {Ee : yE} {l : Launch} {G : zG} {md d : Nat} {h : zHdr} {n0 : Nat} {Q : Int → zH → Prop} {QX : Nat → zH → Prop} {pc : Nat} {L : List zV} {v : zH} {n : Nat} {hc : zHdr} {As rest : List zV} {Q1 : Int → zH → Prop} {idx ic : Nat} {o : Int} (hd : decode (hB h) pc = .ok (.invokespecial idx, 3)) (hm : zmokP hc) (hcode : zcode ic hc = true) (hT4 : hT hc ≤ 4) (hcat : zcats rest ≤ 8) (hn : As.length = hN hc) (w1 : (hO h, idx, hY hc) ∈ zNst) (w2 : Jvm.Cond.initialized (hY hc).cls ∈ zws) (w3 : Jvm.Cond.instanceMethod (hY hc) ∈ zws) (hnm : (hY hc).name = "<init>") (hRn : hR hc = none) (hbud : zbudget h n0 n (hMc hc) (hMs hc))
    (hC : zC l G md d hc ((2, o) :: As) v n Q1) (kk : ∀ (r1 : Int) (v1 : zH), Q1 r1 v1 → yJp Ee l G md (d + 1) h n0 Q QX (pc + 3) L (zpsh (hT hc) r1 rest) v1 (n + hMc hc)) : yJp Ee l G md (d + 1) h n0 Q QX pc L (As.reverse ++ (2, o) :: rest) v n := by
  intro p e R s m args below meth c QW C hEe H locs ls hP hS hLs hSt a1 a2 a3
  obtain ⟨⟨hx, hb, hml, hown, hts⟩, ⟨hKt, hZt, hB0, hB1⟩, ⟨hf1, hf2, hf3, hf4⟩, hin, hHR, hHX⟩ := id C
  refine zW_size fun hsz => ?_
  have hStA : zStk n ((2, o) :: As) := by
    refine zStk_c.mpr ⟨hSt (2, o) (List.mem_append_right _ List.mem_cons_self), fun q hq => hSt q (List.mem_append_left _ (List.mem_reverse.mpr hq))⟩
  have hStR : zStk n rest := fun q hq => hSt q (List.mem_append_right _ (List.mem_cons_of_mem _ hq))
  have hor := (zStk_c.mp hStA).1.1
  have e0 : zc G (2, o) = .ref (zad G o) := zc_ref (zRg_ref hor)
  obtain ⟨b1, b2, b3⟩ := hbud
  have hgood := zWs_good hcode
  have hzm := zSZ_mono a1
  have hcat2 : ((rest.map (zc G)).map fun v => v.category).sum ≤ 8 := Nat.le_trans (zcats_ok rest) hcat
  have hsz0 : md = 0 → H.size = zgB G + n := fun q => by have := hB1 q; have := hP.2.1; omega
  have hNw : va_Nw (.methodLinkNest (hO h) idx (hY hc) "WarmWall") s := hZt.2.2.2.2.2.2.2.2.1 _ w1
  have hrun := va_runIN (bytes := hB hc) (maxL := hL hc) (As := As.map (zc G)) (rest := rest.map (zc G)) (g := F0 m pc ls ((As.reverse ++ (2, o) :: rest).map (zc G))) ⟨hx, hb, hml, hown, hts⟩ hC ⟨va_cnB (hN hc) hts hgood (by rw [zWs, hRn]) rfl rfl hNw (hts _ w2) ⟨hm.1.1, hm.1.2, hm.2.1⟩ ⟨by show d + 1 ≤ R.frames; omega, by show 8 + (hL hc + 11) + 60 * d ≤ R.locals; have := hm.2.2.1; omega⟩, hnm, hts _ w3⟩ ⟨zPc_blind, fun U hU hW => by have q := zPc_pre hP hKt hZt hS hStA hsz0 U hU hW; rw [List.map_cons, e0] at q; exact q⟩ rfl (by rw [List.length_map]; exact hn) hLs.1 (by show (As.reverse ++ (2, o) :: rest).map (zc G) = _; rw [List.map_append, List.map_reverse, List.map_cons, e0]) (lv_room hcat2) hd (cells := n - n0) (slots := zSZ n - zSZ n0) (e := e) (below := below) (meth := meth) (locs := locs) ⟨by omega, by omega⟩
  refine z_back hrun hS fun r1 v1 H1 locs1 q1 q2 q3 q4 => ?_
  have key := kk r1 v1 q1 p e R s m args below meth c QW C hEe H1 locs1 ls q2 q4 (zL_mono hLs (by omega)) (zrr_psh hT4 q3 (zStk_mono hStR (by omega))) (by omega) (by omega) (by omega)
  rw [zret_psh hT4, show n + hMc hc - n0 = n - n0 + hMc hc by omega, show zSZ (n + hMc hc) - zSZ n0 = zSZ n - zSZ n0 + hMs hc by omega] at key
  exact key

