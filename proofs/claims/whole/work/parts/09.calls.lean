/-! calls -/
theorem zSt_warm {G : zG} {s U : State} {H : Heap} {locs : List Loc} (h : zSt G s s.heap) (hS : va_S (zA G) s.heap H locs) (hW : s.WarmedH U.vm) : zSt G U H := by
  have hvm := hW.alike
  have hq : ∀ a : Nat, a < s.heap.size → ¬ zA G a → H[a]? = s.heap[a]? := hS.2.1
  obtain ⟨h1, h2, h3, h4, h5, h6, h7, h8, h9, h10, h11⟩ := h
  refine ⟨fun k hk => va_T.moved hvm ((h1 k hk).kept hq), fun k hk => va_Z.moved hvm ((h2 k hk).kept hq), ⟨va_T.moved hvm (h3.1.kept hq), h3.2⟩, fun k hk => ?_, ⟨h5.1.warm hW, h5.2.1.warm hW, h5.2.2.warm hW⟩, va_Z.moved hvm (h6.kept hq), va_Z.moved hvm (h7.kept hq), va_AO.moved hvm h8, fun q hq9 => va_Nw.warmM hW (h9 q hq9), vx_Zq.moved hvm (h10.kept hq), vx_Zq.moved hvm (h11.kept hq)⟩
  obtain ⟨g1, g2, g3, g4⟩ := h4 k hk
  exact ⟨va_O.moved hvm (g1.kept hq), va_OF.moved hvm (g2.kept hq), va_OF.moved hvm (g3.kept hq), va_T.moved hvm (g4.kept hq)⟩
theorem zSt_same {G : zG} {u U : State} (h : zSt G u u.heap) (hv : U.vm = u.vm) (hh : U.heap = u.heap) : zSt G U U.heap := by
  have hvm : u.vm.Alike U.vm := by rw [hv]; exact Vm.Alike.refl _
  rw [hh]
  obtain ⟨h1, h2, h3, h4, h5, h6, h7, h8, h9, h10, h11⟩ := h
  refine ⟨fun k hk => va_T.moved hvm (h1 k hk), fun k hk => va_Z.moved hvm (h2 k hk), ⟨va_T.moved hvm h3.1, h3.2⟩, fun k hk => ?_, ⟨vk_R.same hv h5.1, vk_R.same hv h5.2.1, vk_R.same hv h5.2.2⟩, va_Z.moved hvm h6, va_Z.moved hvm h7, va_AO.moved hvm h8, fun q hq9 => va_Nw.same rfl hv.symm (h9 q hq9), vx_Zq.moved hvm h10, vx_Zq.moved hvm h11⟩
  obtain ⟨g1, g2, g3, g4⟩ := h4 k hk
  exact ⟨va_O.moved hvm g1, va_OF.moved hvm g2, va_OF.moved hvm g3, va_T.moved hvm g4⟩
theorem zPc_blind {G : zG} {md : Nat} {As : List zV} {v : zH} {n : Nat} : FrameBlind (zPc G md As v n) := by
  intro a U g mk q
  obtain ⟨q1, q2, q3, q4, q5, q6⟩ := q
  exact ⟨q1, q2, va_K.moved (u := U) (U := U.calling g mk a) (Vm.Alike.refl U.vm) q3, zSt_same (U := U.calling g mk a) q4 rfl rfl, q5, q6⟩
theorem zPc_pre {G : zG} {md : Nat} {As : List zV} {v : zH} {n : Nat} {s : State} {H : Heap} {locs : List Loc} (hP : zP G md v n H) (hK : zKt G s) (hZ : zSt G s s.heap) (hS : va_S (zA G) s.heap H locs) (hA : zStk n As) (hB : md = 0 → H.size = zgB G + n) : ∀ U : State, U.heap = H → s.WarmedH U.vm → zPc G md As v n (As.map (zc G)).toArray U := by
  intro U hU hW
  refine ⟨rfl, by rw [hU]; exact hP, va_K.moved hW.alike hK, by rw [hU]; exact zSt_warm hZ hS hW, hA, by rw [hU]; exact hB⟩
theorem zret_psh {G : zG} {t : Nat} {r : Int} {st : List zV} (h : t ≤ 4) : (zpsh t r st).map (zc G) = (zRet G t r).toList ++ st.map (zc G) := by
  rcases (show t = 0 ∨ t = 1 ∨ t = 2 ∨ t = 3 ∨ t = 4 by omega) with q | q | q | q | q <;> subst q <;> rfl
section ZC
variable {p : Program} {l : Launch} {e : Env} {R : Room} {s : State} {m : MethodId} {args : Array Value} {below : List Frame} {meth : Method} {c : Code} {H : Heap} {locs : List Loc} {cells slots : Nat} {Q : State → Prop}
variable {pc : Nat} {ls : Array Slot} {rest st0 : List Value} {a : Array Value} {mc ms : Nat} {G : zG} {md n : Nat} {h : zHdr} {Q' : Int → zH → Prop}
theorem z_back (hr : va_Run p l e R s m args below meth c H locs cells slots mc ms (F0 m pc ls st0) rest (zQc G md h n Q' a) (zA G)) (hS : va_S (zA G) s.heap H locs)
    (kk : ∀ (r : Int) (v : zH) (H1 : Heap) (locs1 : List Loc), Q' r v → zP G md v (n + hMc h) H1 → zRr (n + hMc h) (hT h) r → va_S (zA G) s.heap H1 locs1 → W p l e R s m args below meth c H1 locs1 (cells + mc) (slots + ms) Q (F0 m (pc + 3) ls ((zRet G (hT h) r).toList ++ rest))) : W p l e R s m args below meth c H locs cells slots Q (F0 m pc ls st0) := by
  intro T hT X
  obtain ⟨v, st₀, t, T', L, h0, X', hL, e1, e2, ⟨⟨r, u, hv, hp, hb, hrr⟩, hz, hk⟩, st⟩ := hr T hT X
  cases hv
  rw [h0] at hz hk
  obtain ⟨t2, a1, b1⟩ := kk r u T'.heap (locs ++ L) hp (by rw [e1]; exact hb) hrr
    ⟨Nat.le_trans hS.1 (by rw [e1]; exact hz), fun q h1 h2 => by rw [e1, hk q (Nat.lt_of_lt_of_le h1 hS.1) h2]; exact hS.2.1 q h1 h2, fun q hq => by
      rcases List.mem_append.mp hq with h | h
      · exact hS.2.2 q h
      · exact hL q h⟩ T' rfl X'
  exact ⟨t2, st t2 a1, b1⟩
end ZC
theorem zcats_ok {G : zG} : ∀ (st : List zV), ((st.map (zc G)).map fun v => v.category).sum ≤ zcats st
  | [] => Nat.le_refl _
  | q :: r => by
    have ih := zcats_ok (G := G) r
    obtain ⟨t, x⟩ := q
    by_cases ht : t = 1
    · subst ht
      simp only [List.map_cons, List.sum_cons]
      show (2 : Nat) + _ ≤ 2 + _
      omega
    · have h1 := zcat1 (G := G) (x := x) ht
      simp only [List.map_cons, List.sum_cons, h1]
      have h2 : zcats ((t, x) :: r) = 1 + zcats r := by
        match t, ht with
        | 0, _ => rfl
        | 1, q => exact absurd rfl q
        | k + 2, _ => rfl
      omega
theorem zrr_psh {n t : Nat} {r : Int} {st : List zV} (ht : t ≤ 4) (hrr : zRr n t r) (hSt : zStk n st) : zStk n (zpsh t r st) := by
  rcases (show t = 0 ∨ t = 1 ∨ t = 2 ∨ t = 3 ∨ t = 4 by omega) with q | q | q | q | q <;> subst q
  · exact zStk_c.mpr ⟨⟨hrr, by simp⟩, hSt⟩
  · exact zStk_c.mpr ⟨⟨hrr, by simp⟩, hSt⟩
  · exact zStk_c.mpr ⟨⟨hrr, by simp⟩, hSt⟩
  · exact hSt
  · exact zStk_c.mpr ⟨⟨hrr, by simp⟩, hSt⟩
/-- what a method's head must say, as a check has it -/
def zmokP (hc : zHdr) : Prop := ((hY hc).cls ≠ "java/lang/invoke/MethodHandle" ∧ (hY hc).cls ≠ "java/lang/invoke/VarHandle") ∧ (parseMethodDescriptor (hY hc).desc).map (fun d => d.parameters.length) = some (hN hc) ∧ hL hc ≤ 41 ∧ (hMc hc = 0 → hMs hc = 0) ∧ hT hc ≤ 4
theorem zmok_ok {hc : zHdr} (h : zmok hc = true) : zmokP hc := by
  unfold zmok at h
  simp only [Bool.and_eq_true, decide_eq_true_eq, Bool.or_eq_true] at h
  obtain ⟨⟨⟨⟨⟨h1, h2⟩, h3⟩, h4⟩, h5⟩, h6⟩ := h
  refine ⟨⟨h1, h2⟩, h3, Nat.le_of_ble_eq_true h4, fun q => ?_, Nat.le_of_ble_eq_true h6⟩
  rcases h5 with h5 | h5
  · rw [q] at h5
    cases h5
  · exact Nat.eq_of_beq_eq_true h5
theorem zs_callS {l : Launch} {G : zG} {md d : Nat} {h : zHdr} {n0 : Nat} {Q : Int → zH → Prop} {QX : Nat → zH → Prop} {pc : Nat} {L : List zV} {v : zH} {n : Nat} {hc : zHdr} {As rest : List zV} {Q1 : Int → zH → Prop} {idx ic : Nat} (hd : decode (hB h) pc = .ok (.invokestatic idx, 3)) (hm : zmokP hc) (hcode : zcode ic hc = true) (hT4 : hT hc ≤ 4) (hcat : zcats rest ≤ 8) (hn : As.length = hN hc) (w1 : Jvm.Cond.methodLink (hO h) idx (hY hc) ∈ zws) (w2 : Jvm.Cond.static (hY hc) ∈ zws) (w3 : Jvm.Cond.initialized (hY hc).cls ∈ zws) (hbud : zbudget h n0 n (hMc hc) (hMs hc))
    (hC : zC l G md d hc As v n Q1) (kk : ∀ (r1 : Int) (v1 : zH), Q1 r1 v1 → zJp l G md (d + 1) h n0 Q QX (pc + 3) L (zpsh (hT hc) r1 rest) v1 (n + hMc hc)) : zJp l G md (d + 1) h n0 Q QX pc L (As.reverse ++ rest) v n := by
  intro p e R s m args below meth c QW C H locs ls hP hS hLs hSt a1 a2 a3
  obtain ⟨⟨hx, hb, hml, hown, hts⟩, ⟨hKt, hZt, hB0, hB1⟩, ⟨hf1, hf2, hf3, hf4⟩, hin, hHR, hHX⟩ := id C
  refine zW_size fun hsz => ?_
  have hStA : zStk n As := fun q hq => hSt q (List.mem_append_left _ (List.mem_reverse.mpr hq))
  have hStR : zStk n rest := fun q hq => hSt q (List.mem_append_right _ hq)
  obtain ⟨b1, b2, b3⟩ := hbud
  have hgood := zWs_good hcode
  have hzm := zSZ_mono a1
  have hcat2 : ((rest.map (zc G)).map fun v => v.category).sum ≤ 8 := Nat.le_trans (zcats_ok rest) hcat
  have hsz0 : md = 0 → H.size = zgB G + n := fun q => by have := hB1 q; have := hP.2.1; omega
  have hT0 : GoodIn zws (va_wsS (hO h) idx (hY hc) (zWs hc)) := by
    intro w hw
    unfold va_wsS at hw
    rcases List.mem_append.mp hw with hw | hw
    · rcases List.mem_cons.mp hw with rfl | hw
      · exact zws_good _ w1
      · rcases List.mem_cons.mp hw with rfl | hw
        · exact zws_good _ w2
        · rw [List.mem_singleton.mp hw]
          exact zws_good _ w3
    · exact hgood w hw
  have hrun := va_runS (As := As.map (zc G)) (rest := rest.map (zc G)) (g := F0 m pc ls ((As.reverse ++ rest).map (zc G))) ⟨hx, hb, hml, hown, hts⟩ hC (va_cwS (hN hc) hts hT0 rfl rfl rfl ⟨hm.1.1, hm.1.2, hm.2.1⟩ ⟨by show d + 1 ≤ R.frames; omega, by show 8 + (hL hc + 11) + 60 * d ≤ R.locals; have := hm.2.2.1; omega⟩) ⟨zPc_blind, zPc_pre hP hKt hZt hS hStA hsz0⟩ rfl (by rw [List.length_map]; exact hn) hLs.1 (by show (As.reverse ++ rest).map (zc G) = _; rw [List.map_append, List.map_reverse]) (lv_room hcat2) hd (cells := n - n0) (slots := zSZ n - zSZ n0) (e := e) (below := below) (meth := meth) (locs := locs) ⟨by omega, by omega⟩
  refine z_back hrun hS fun r1 v1 H1 locs1 q1 q2 q3 q4 => ?_
  have key := kk r1 v1 q1 p e R s m args below meth c QW C H1 locs1 ls q2 q4 (zL_mono hLs (by omega)) (zrr_psh hT4 q3 (zStk_mono hStR (by omega))) (by omega) (by omega) (by omega)
  rw [zret_psh hT4, show n + hMc hc - n0 = n - n0 + hMc hc by omega, show zSZ (n + hMc hc) - zSZ n0 = zSZ n - zSZ n0 + hMs hc by omega] at key
  exact key
theorem zs_callV {l : Launch} {G : zG} {md d : Nat} {h : zHdr} {n0 : Nat} {Q : Int → zH → Prop} {QX : Nat → zH → Prop} {pc : Nat} {L : List zV} {v : zH} {n : Nat} {hc : zHdr} {As rest : List zV} {Q1 : Int → zH → Prop} {idx ic : Nat} {o : Int} {rc : Nat} (hd : decode (hB h) pc = .ok (.invokevirtual idx, 3)) (hm : zmokP hc) (hcode : zcode ic hc = true) (hT4 : hT hc ≤ 4) (hcat : zcats rest ≤ 8) (hn : As.length = hN hc) (w1 : Jvm.Cond.methodLink (hO h) idx (hY hc) ∈ zws) (w2 : Jvm.Cond.instanceMethod (hY hc) ∈ zws) (w3 : Jvm.Cond.selects (zrcn rc) (hY hc) (hY hc) ∈ zws) (w4 : Jvm.Cond.initialized (zrcn rc) ∈ zws) (hcn : (hY hc).cls = zrcn rc) (hrc : rc < 12 ∨ rc = 26) (hcl : zCL o = rc) (hbud : zbudget h n0 n (hMc hc) (hMs hc))
    (hC : zC l G md d hc ((2, o) :: As) v n Q1) (kk : ∀ (r1 : Int) (v1 : zH), Q1 r1 v1 → zJp l G md (d + 1) h n0 Q QX (pc + 3) L (zpsh (hT hc) r1 rest) v1 (n + hMc hc)) : zJp l G md (d + 1) h n0 Q QX pc L (As.reverse ++ (2, o) :: rest) v n := by
  intro p e R s m args below meth c QW C H locs ls hP hS hLs hSt a1 a2 a3
  obtain ⟨⟨hx, hb, hml, hown, hts⟩, ⟨hKt, hZt, hB0, hB1⟩, ⟨hf1, hf2, hf3, hf4⟩, hin, hHR, hHX⟩ := id C
  refine zW_size fun hsz => ?_
  have hStA : zStk n ((2, o) :: As) := by
    refine zStk_c.mpr ⟨hSt (2, o) (List.mem_append_right _ List.mem_cons_self), fun q hq => hSt q (List.mem_append_left _ (List.mem_reverse.mpr hq))⟩
  have hStR : zStk n rest := fun q hq => hSt q (List.mem_append_right _ (List.mem_cons_of_mem _ hq))
  have hor := (zStk_c.mp hStA).1.1
  have e0 : zc G (2, o) = .ref (zad G o) := zc_ref (zRg_ref hor)
  obtain ⟨b1, b2, b3⟩ := hbud
  have hgood := zWs_good hcode
  have hzm := zSZ_mono a1
  have hcat2 : ((rest.map (zc G)).map fun v => v.category).sum ≤ 8 := Nat.le_trans (zcats_ok rest) hcat
  have hsz0 : md = 0 → H.size = zgB G + n := fun q => by have := hB1 q; have := hP.2.1; omega
  have hrecv : ∃ cellB : Cell, H[zad G o]? = some cellB ∧ cellB.vm.isStatics = false ∧ s.vm.findClass (zrcn rc) = some cellB.cls := by
    rcases hrc with h12 | h26
    · obtain ⟨i, rfl, hi, hci⟩ := zcell hor hcl (by omega)
      rw [zad_n]
      have := va_recv hKt hP.1 (ci := rc) (q0 := i) (zcr_get h12) (by rw [zW_get hi, zE_o hci h12])
      unfold zrcn
      rw [if_neg (by omega)]
      exact this
    · subst h26
      obtain ⟨k, hk, rfl⟩ := zsc hor hcl
      rw [zad_s (by omega)]
      exact va_Orecv (hZt.2.2.2.1 k hk).1 hS
  have hT0 : GoodIn zws (wsV (hO h) idx (zrcn rc) (hY hc) (zWs hc)) := by
    intro w hw
    unfold wsV at hw
    rcases List.mem_append.mp hw with hw | hw
    · rcases List.mem_cons.mp hw with rfl | hw
      · exact zws_good _ w1
      · rcases List.mem_cons.mp hw with rfl | hw
        · exact zws_good _ w2
        · rcases List.mem_cons.mp hw with rfl | hw
          · exact zws_good _ w3
          · rw [List.mem_singleton.mp hw]
            exact zws_good _ w4
    · exact hgood w hw
  have hrun := va_runV (As := As.map (zc G)) (rest := rest.map (zc G)) (g := F0 m pc ls ((As.reverse ++ (2, o) :: rest).map (zc G))) ⟨hx, hb, hml, hown, hts⟩ hC (cwV (hN hc) hts hT0 rfl rfl rfl ⟨hcn, hm.1.1, hm.1.2, hm.2.1⟩ ⟨by show d + 1 ≤ R.frames; omega, by show 8 + (hL hc + 11) + 60 * d ≤ R.locals; have := hm.2.2.1; omega⟩) ⟨zPc_blind, hrecv, fun U hU hW => by have q := zPc_pre hP hKt hZt hS hStA hsz0 U hU hW; rw [List.map_cons, e0] at q; exact q⟩ rfl (by rw [List.length_map]; exact hn) hLs.1 (by show (As.reverse ++ (2, o) :: rest).map (zc G) = _; rw [List.map_append, List.map_reverse, List.map_cons, e0]) (lv_room hcat2) hd (cells := n - n0) (slots := zSZ n - zSZ n0) (e := e) (below := below) (meth := meth) (locs := locs) ⟨by omega, by omega⟩
  refine z_back hrun hS fun r1 v1 H1 locs1 q1 q2 q3 q4 => ?_
  have key := kk r1 v1 q1 p e R s m args below meth c QW C H1 locs1 ls q2 q4 (zL_mono hLs (by omega)) (zrr_psh hT4 q3 (zStk_mono hStR (by omega))) (by omega) (by omega) (by omega)
  rw [zret_psh hT4, show n + hMc hc - n0 = n - n0 + hMc hc by omega, show zSZ (n + hMc hc) - zSZ n0 = zSZ n - zSZ n0 + hMs hc by omega] at key
  exact key
theorem zs_callU {l : Launch} {G : zG} {md d : Nat} {h : zHdr} {n0 : Nat} {Q : Int → zH → Prop} {QX : Nat → zH → Prop} {pc : Nat} {L : List zV} {v : zH} {n : Nat} {hc : zHdr} {As rest : List zV} {Q1 : Int → zH → Prop} {idx ic : Nat} {o : Int} {rc : Nat} {x : MethodName} (hd : decode (hB h) pc = .ok (.invokevirtual idx, 3)) (hm : zmokP hc) (hcode : zcode ic hc = true) (hT4 : hT hc ≤ 4) (hcat : zcats rest ≤ 8) (hn : As.length = hN hc) (w1 : Jvm.Cond.methodLink (hO h) idx x ∈ zws) (w2 : Jvm.Cond.sameMethod x.cls (hY hc).cls x.name x.desc ∈ zws) (w3 : Jvm.Cond.selects (zrcn rc) x (hY hc) ∈ zws) (w4 : Jvm.Cond.instanceMethod (hY hc) ∈ zws) (w5 : Jvm.Cond.initialized (hY hc).cls ∈ zws) (hyx : hY hc = ⟨(hY hc).cls, x.name, x.desc⟩) (hxd : (parseMethodDescriptor x.desc).map (fun d => d.parameters.length) = some (hN hc)) (hrc : rc < 12 ∨ rc = 26) (hcl : zCL o = rc) (hbud : zbudget h n0 n (hMc hc) (hMs hc))
    (hC : zC l G md d hc ((2, o) :: As) v n Q1) (kk : ∀ (r1 : Int) (v1 : zH), Q1 r1 v1 → zJp l G md (d + 1) h n0 Q QX (pc + 3) L (zpsh (hT hc) r1 rest) v1 (n + hMc hc)) : zJp l G md (d + 1) h n0 Q QX pc L (As.reverse ++ (2, o) :: rest) v n := by
  intro p e R s m args below meth c QW C H locs ls hP hS hLs hSt a1 a2 a3
  obtain ⟨⟨hx, hb, hml, hown, hts⟩, ⟨hKt, hZt, hB0, hB1⟩, ⟨hf1, hf2, hf3, hf4⟩, hin, hHR, hHX⟩ := id C
  refine zW_size fun hsz => ?_
  have hStA : zStk n ((2, o) :: As) := by
    refine zStk_c.mpr ⟨hSt (2, o) (List.mem_append_right _ List.mem_cons_self), fun q hq => hSt q (List.mem_append_left _ (List.mem_reverse.mpr hq))⟩
  have hStR : zStk n rest := fun q hq => hSt q (List.mem_append_right _ (List.mem_cons_of_mem _ hq))
  have hor := (zStk_c.mp hStA).1.1
  have e0 : zc G (2, o) = .ref (zad G o) := zc_ref (zRg_ref hor)
  obtain ⟨b1, b2, b3⟩ := hbud
  have hgood := zWs_good hcode
  have hzm := zSZ_mono a1
  have hcat2 : ((rest.map (zc G)).map fun v => v.category).sum ≤ 8 := Nat.le_trans (zcats_ok rest) hcat
  have hsz0 : md = 0 → H.size = zgB G + n := fun q => by have := hB1 q; have := hP.2.1; omega
  have hrecv : ∃ cellB : Cell, H[zad G o]? = some cellB ∧ cellB.vm.isStatics = false ∧ s.vm.findClass (zrcn rc) = some cellB.cls := by
    rcases hrc with h12 | h26
    · obtain ⟨i, rfl, hi, hci⟩ := zcell hor hcl (by omega)
      rw [zad_n]
      have := va_recv hKt hP.1 (ci := rc) (q0 := i) (zcr_get h12) (by rw [zW_get hi, zE_o hci h12])
      unfold zrcn
      rw [if_neg (by omega)]
      exact this
    · subst h26
      obtain ⟨k, hk, rfl⟩ := zsc hor hcl
      rw [zad_s (by omega)]
      exact va_Orecv (hZt.2.2.2.1 k hk).1 hS
  have hT0 : GoodIn zws (va_wsU (hO h) idx (zrcn rc) (hY hc).cls x (hY hc) (zWs hc)) := by
    intro w hw
    unfold va_wsU at hw
    rcases List.mem_append.mp hw with hw | hw
    · rcases List.mem_cons.mp hw with rfl | hw
      · exact zws_good _ w1
      · rcases List.mem_cons.mp hw with rfl | hw
        · exact zws_good _ w2
        · rcases List.mem_cons.mp hw with rfl | hw
          · exact zws_good _ w3
          · rcases List.mem_cons.mp hw with rfl | hw
            · exact zws_good _ w4
            · rw [List.mem_singleton.mp hw]
              exact zws_good _ w5
    · exact hgood w hw
  have hrun := va_runU (As := As.map (zc G)) (rest := rest.map (zc G)) (g := F0 m pc ls ((As.reverse ++ (2, o) :: rest).map (zc G))) ⟨hx, hb, hml, hown, hts⟩ hC (va_cwU (hN hc) hts hT0 rfl rfl rfl hyx ⟨hm.1.1, hm.1.2, hxd⟩ ⟨by show d + 1 ≤ R.frames; omega, by show 8 + (hL hc + 11) + 60 * d ≤ R.locals; have := hm.2.2.1; omega⟩) ⟨zPc_blind, hrecv, fun U hU hW => by have q := zPc_pre hP hKt hZt hS hStA hsz0 U hU hW; rw [List.map_cons, e0] at q; exact q⟩ rfl (by rw [List.length_map]; exact hn) hLs.1 (by show (As.reverse ++ (2, o) :: rest).map (zc G) = _; rw [List.map_append, List.map_reverse, List.map_cons, e0]) (lv_room hcat2) hd (cells := n - n0) (slots := zSZ n - zSZ n0) (e := e) (below := below) (meth := meth) (locs := locs) ⟨by omega, by omega⟩
  refine z_back hrun hS fun r1 v1 H1 locs1 q1 q2 q3 q4 => ?_
  have key := kk r1 v1 q1 p e R s m args below meth c QW C H1 locs1 ls q2 q4 (zL_mono hLs (by omega)) (zrr_psh hT4 q3 (zStk_mono hStR (by omega))) (by omega) (by omega) (by omega)
  rw [zret_psh hT4, show n + hMc hc - n0 = n - n0 + hMc hc by omega, show zSZ (n + hMc hc) - zSZ n0 = zSZ n - zSZ n0 + hMs hc by omega] at key
  exact key
theorem zs_callI {l : Launch} {G : zG} {md d : Nat} {h : zHdr} {n0 : Nat} {Q : Int → zH → Prop} {QX : Nat → zH → Prop} {pc : Nat} {L : List zV} {v : zH} {n : Nat} {hc : zHdr} {As rest : List zV} {Q1 : Int → zH → Prop} {idx ic : Nat} {o : Int} (hd : decode (hB h) pc = .ok (.invokespecial idx, 3)) (hm : zmokP hc) (hcode : zcode ic hc = true) (hT4 : hT hc ≤ 4) (hcat : zcats rest ≤ 8) (hn : As.length = hN hc) (w1 : Jvm.Cond.methodLink (hO h) idx (hY hc) ∈ zws) (w2 : Jvm.Cond.initialized (hY hc).cls ∈ zws) (w3 : Jvm.Cond.instanceMethod (hY hc) ∈ zws) (hnm : (hY hc).name = "<init>") (hRn : hR hc = none) (hbud : zbudget h n0 n (hMc hc) (hMs hc))
    (hC : zC l G md d hc ((2, o) :: As) v n Q1) (kk : ∀ (r1 : Int) (v1 : zH), Q1 r1 v1 → zJp l G md (d + 1) h n0 Q QX (pc + 3) L (zpsh (hT hc) r1 rest) v1 (n + hMc hc)) : zJp l G md (d + 1) h n0 Q QX pc L (As.reverse ++ (2, o) :: rest) v n := by
  intro p e R s m args below meth c QW C H locs ls hP hS hLs hSt a1 a2 a3
  obtain ⟨⟨hx, hb, hml, hown, hts⟩, ⟨hKt, hZt, hB0, hB1⟩, ⟨hf1, hf2, hf3, hf4⟩, hin, hHR, hHX⟩ := id C
  refine zW_size fun hsz => ?_
  have hStA : zStk n ((2, o) :: As) := by
    refine zStk_c.mpr ⟨hSt (2, o) (List.mem_append_right _ List.mem_cons_self), fun q hq => hSt q (List.mem_append_left _ (List.mem_reverse.mpr hq))⟩
  have hStR : zStk n rest := fun q hq => hSt q (List.mem_append_right _ (List.mem_cons_of_mem _ hq))
  have hor := (zStk_c.mp hStA).1.1
  have e0 : zc G (2, o) = .ref (zad G o) := zc_ref (zRg_ref hor)
  obtain ⟨b1, b2, b3⟩ := hbud
  have hgood := zWs_good hcode
  have hzm := zSZ_mono a1
  have hcat2 : ((rest.map (zc G)).map fun v => v.category).sum ≤ 8 := Nat.le_trans (zcats_ok rest) hcat
  have hsz0 : md = 0 → H.size = zgB G + n := fun q => by have := hB1 q; have := hP.2.1; omega
  have hrun := va_runI (bytes := hB hc) (maxL := hL hc) (As := As.map (zc G)) (rest := rest.map (zc G)) (g := F0 m pc ls ((As.reverse ++ (2, o) :: rest).map (zc G))) ⟨hx, hb, hml, hown, hts⟩ hC (cwI (hN hc) hts hgood (by rw [zWs, hRn]) rfl rfl (hts _ w2) (hts _ w1) (hts _ w3) hnm ⟨hm.1.1, hm.1.2, hm.2.1⟩ ⟨by show d + 1 ≤ R.frames; omega, by show 8 + (hL hc + 11) + 60 * d ≤ R.locals; have := hm.2.2.1; omega⟩) ⟨zPc_blind, fun U hU hW => by have q := zPc_pre hP hKt hZt hS hStA hsz0 U hU hW; rw [List.map_cons, e0] at q; exact q⟩ rfl (by rw [List.length_map]; exact hn) hLs.1 (by show (As.reverse ++ (2, o) :: rest).map (zc G) = _; rw [List.map_append, List.map_reverse, List.map_cons, e0]) (lv_room hcat2) hd (cells := n - n0) (slots := zSZ n - zSZ n0) (e := e) (below := below) (meth := meth) (locs := locs) ⟨by omega, by omega⟩
  refine z_back hrun hS fun r1 v1 H1 locs1 q1 q2 q3 q4 => ?_
  have key := kk r1 v1 q1 p e R s m args below meth c QW C H1 locs1 ls q2 q4 (zL_mono hLs (by omega)) (zrr_psh hT4 q3 (zStk_mono hStR (by omega))) (by omega) (by omega) (by omega)
  rw [zret_psh hT4, show n + hMc hc - n0 = n - n0 + hMc hc by omega, show zSZ (n + hMc hc) - zSZ n0 = zSZ n - zSZ n0 + hMs hc by omega] at key
  exact key
theorem zs_callIN {l : Launch} {G : zG} {md d : Nat} {h : zHdr} {n0 : Nat} {Q : Int → zH → Prop} {QX : Nat → zH → Prop} {pc : Nat} {L : List zV} {v : zH} {n : Nat} {hc : zHdr} {As rest : List zV} {Q1 : Int → zH → Prop} {idx ic : Nat} {o : Int} (hd : decode (hB h) pc = .ok (.invokespecial idx, 3)) (hm : zmokP hc) (hcode : zcode ic hc = true) (hT4 : hT hc ≤ 4) (hcat : zcats rest ≤ 8) (hn : As.length = hN hc) (w1 : (hO h, idx, hY hc) ∈ zNst) (w2 : Jvm.Cond.initialized (hY hc).cls ∈ zws) (w3 : Jvm.Cond.instanceMethod (hY hc) ∈ zws) (hnm : (hY hc).name = "<init>") (hRn : hR hc = none) (hbud : zbudget h n0 n (hMc hc) (hMs hc))
    (hC : zC l G md d hc ((2, o) :: As) v n Q1) (kk : ∀ (r1 : Int) (v1 : zH), Q1 r1 v1 → zJp l G md (d + 1) h n0 Q QX (pc + 3) L (zpsh (hT hc) r1 rest) v1 (n + hMc hc)) : zJp l G md (d + 1) h n0 Q QX pc L (As.reverse ++ (2, o) :: rest) v n := by
  intro p e R s m args below meth c QW C H locs ls hP hS hLs hSt a1 a2 a3
  obtain ⟨⟨hx, hb, hml, hown, hts⟩, ⟨hKt, hZt, hB0, hB1⟩, ⟨hf1, hf2, hf3, hf4⟩, hin, hHR, hHX⟩ := id C
  refine zW_size fun hsz => ?_
  have hStA : zStk n ((2, o) :: As) := by
    refine zStk_c.mpr ⟨hSt (2, o) (List.mem_append_right _ List.mem_cons_self), fun q hq => hSt q (List.mem_append_left _ (List.mem_reverse.mpr hq))⟩
  have hStR : zStk n rest := fun q hq => hSt q (List.mem_append_right _ (List.mem_cons_of_mem _ hq))
  have hor := (zStk_c.mp hStA).1.1
  have e0 : zc G (2, o) = .ref (zad G o) := zc_ref (zRg_ref hor)
  obtain ⟨b1, b2, b3⟩ := hbud
  have hgood := zWs_good hcode
  have hzm := zSZ_mono a1
  have hcat2 : ((rest.map (zc G)).map fun v => v.category).sum ≤ 8 := Nat.le_trans (zcats_ok rest) hcat
  have hsz0 : md = 0 → H.size = zgB G + n := fun q => by have := hB1 q; have := hP.2.1; omega
  have hNw : va_Nw (.methodLinkNest (hO h) idx (hY hc) "WarmWall") s := hZt.2.2.2.2.2.2.2.2.1 _ w1
  have hrun := va_runIN (bytes := hB hc) (maxL := hL hc) (As := As.map (zc G)) (rest := rest.map (zc G)) (g := F0 m pc ls ((As.reverse ++ (2, o) :: rest).map (zc G))) ⟨hx, hb, hml, hown, hts⟩ hC ⟨va_cnB (hN hc) hts hgood (by rw [zWs, hRn]) rfl rfl hNw (hts _ w2) ⟨hm.1.1, hm.1.2, hm.2.1⟩ ⟨by show d + 1 ≤ R.frames; omega, by show 8 + (hL hc + 11) + 60 * d ≤ R.locals; have := hm.2.2.1; omega⟩, hnm, hts _ w3⟩ ⟨zPc_blind, fun U hU hW => by have q := zPc_pre hP hKt hZt hS hStA hsz0 U hU hW; rw [List.map_cons, e0] at q; exact q⟩ rfl (by rw [List.length_map]; exact hn) hLs.1 (by show (As.reverse ++ (2, o) :: rest).map (zc G) = _; rw [List.map_append, List.map_reverse, List.map_cons, e0]) (lv_room hcat2) hd (cells := n - n0) (slots := zSZ n - zSZ n0) (e := e) (below := below) (meth := meth) (locs := locs) ⟨by omega, by omega⟩
  refine z_back hrun hS fun r1 v1 H1 locs1 q1 q2 q3 q4 => ?_
  have key := kk r1 v1 q1 p e R s m args below meth c QW C H1 locs1 ls q2 q4 (zL_mono hLs (by omega)) (zrr_psh hT4 q3 (zStk_mono hStR (by omega))) (by omega) (by omega) (by omega)
  rw [zret_psh hT4, show n + hMc hc - n0 = n - n0 + hMc hc by omega, show zSZ (n + hMc hc) - zSZ n0 = zSZ n - zSZ n0 + hMs hc by omega] at key
  exact key
