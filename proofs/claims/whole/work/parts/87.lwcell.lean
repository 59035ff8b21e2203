/-! THE LAW'S OWN CELL: it catches what the class throws -/
def wsLc : List Cond := Cond.codeWith (hY h_Lw_cell) (hB h_Lw_cell) 5 (some .int) [(0, 10, 13, 13)] :: zws
def lcQ (G : zG) (Q : Int → zH → Prop) : Array Value → State → Outcome → State → Prop := fun _ st oc t =>
  (∃ (r : Int) (v' : zH), oc = .returned (some (.int (Int32.ofInt r))) ∧ Q r v' ∧ zP G 1 v' 115 t.heap ∧ zI r) ∧ va_F (zA G) st t
theorem d_Lc : decode (hB h_Lw_cell) 0 = .ok (.aload_n 3, 1) ∧ decode (hB h_Lw_cell) 1 = .ok (.iconst 0, 1) ∧ decode (hB h_Lw_cell) 2 = .ok (.aload_n 0, 1) ∧ decode (hB h_Lw_cell) 3 = .ok (.iload_n 1, 1) ∧ decode (hB h_Lw_cell) 4 = .ok (.iload_n 2, 1) ∧ decode (hB h_Lw_cell) 5 = .ok (.invokevirtual 7, 3) ∧ decode (hB h_Lw_cell) 8 = .ok (.i2l, 1) := by decide +kernel
theorem d_Lc2 : decode (hB h_Lw_cell) 9 = .ok (.lastore, 1) ∧ decode (hB h_Lw_cell) 10 = .ok (.goto 7, 3) ∧ decode (hB h_Lw_cell) 13 = .ok (.astore 4, 2) ∧ decode (hB h_Lw_cell) 15 = .ok (.iconst 1, 1) ∧ decode (hB h_Lw_cell) 16 = .ok (.ireturn, 1) ∧ decode (hB h_Lw_cell) 17 = .ok (.iconst 0, 1) ∧ decode (hB h_Lw_cell) 18 = .ok (.ireturn, 1) := by decide +kernel
theorem g_Lc : GoodIn zws (wsV "WarmWallLaw" 7 "WarmWall" (hY h_W_cell) (zWs h_W_cell)) := by
  intro w hw
  unfold wsV at hw
  rcases List.mem_append.mp hw with hw | hw
  · rcases List.mem_cons.mp hw with rfl | hw
    · exact zws_good _ (zwd_ok (i := 4199) (by decide +kernel))
    · rcases List.mem_cons.mp hw with rfl | hw
      · exact zws_good _ (zwd_ok (i := 4200) (by decide +kernel))
      · rcases List.mem_cons.mp hw with rfl | hw
        · exact zws_good _ (zwd_ok (i := 4201) (by decide +kernel))
        · rw [List.mem_singleton.mp hw]
          exact zws_good _ (zwd_ok (i := 1001) (by decide +kernel))
  · exact zWs_good (i := 4202) (by decide +kernel) _ hw
theorem m_Lw_cell {l : Launch} {G : zG} {d : Nat} {v : zH} {s0 : zSg} {a k : Int} {Q : Int → zH → Prop} (hl : l.stackTraces = false) (hA : AC v s0)
    (K1 : cOk s0 a k → ∀ v' : zH, Fc v v' → AC v' s0 → Q 0 (zupd v' 114 0 (aCellV (gW s0) (gS s0) (gC s0) a k))) (K2 : ¬ cOk s0 a k → Q 1 v) :
    Met l (hY h_Lw_cell) wsLc { frames := d + 9, cells := 1, slots := 6, locals := 60 * (d + 9) } (zPcX G [(2, 0), (0, a), (0, k), (2, 114)] v 115) (lcQ G Q) 1 6 (zA G) := by
  refine va_MetW (cc := hB h_Lw_cell) (maxL := 5) (ret := some .int) (hh := [(0, 10, 13, 13)]) (by decide +kernel) rfl ?_
  intro p e s m args below meth c s₁ B hml hv
  obtain ⟨⟨rfl, hP, hKt, hZt, hStA, hB1⟩, hXt⟩ := hv
  have hx := B.exec
  have hb := B.bytes
  have hr := B.returns
  have hlocks := B.notSynchronized
  have hts0 := atoms_spec (ws := wsLc) B.pre
  have hts : ∀ w ∈ zws, w.before ([(2, 0), (0, a), (0, k), (2, 114)].map (zc G)).toArray s = true := fun w hw => hts0 w (List.mem_cons_of_mem _ hw)
  have htab : c.exceptionTable.toList = [] ++ ⟨0, 10, 13, 13⟩ :: [] := vx_table (x := hY h_Lw_cell) B (hts0 _ List.mem_cons_self)
  have hown : s.vm.findClass "WarmWallLaw" = some m.cls := findClass_of_methodNamed B.named
  rw [lg_entry_eq]
  have hLs := zargs_ok (G := G) (n := 115) (nL := 5) hStA (Nat.le_of_ble_eq_true rfl)
  generalize (lg_sl ([(2, 0), (0, a), (0, k), (2, 114)].map (zc G)) ++ List.replicate (5 - (lg_sl ([(2, 0), (0, a), (0, k), (2, 114)].map (zc G))).length) Slot.unset).toArray = ls at hLs ⊢
  have g0 : ls[0]? = some (.val (.ref (zad G 0))) := (hLs.2.2 0 2 0 rfl (by decide)).1
  have g1 : ls[1]? = some (.val (.int (Int32.ofInt a))) := (hLs.2.2 1 0 a rfl (by decide)).1
  have g2 : ls[2]? = some (.val (.int (Int32.ofInt k))) := (hLs.2.2 2 0 k rfl (by decide)).1
  have g3 : ls[3]? = some (.val (.ref (zad G 114))) := (hLs.2.2 3 2 114 rfl (by decide)).1
  obtain ⟨d0, d1, d2, d3, d4, d5, d8⟩ := d_Lc
  obtain ⟨d9, d10, d13, d15, d16, d17, d18⟩ := d_Lc2
  have hStA3 : zStk 115 [(2, 0), (0, a), (0, k)] := fun q hq => hStA q (by simp only [List.mem_cons, List.not_mem_nil, or_false] at hq ⊢; rcases hq with h | h | h <;> simp [h])
  have hrecv : ∃ cellB : Cell, s.heap[zad G 0]? = some cellB ∧ cellB.vm.isStatics = false ∧ s.vm.findClass "WarmWall" = some cellB.cls := va_recv hKt hP.1 (ci := 10) (q0 := 0) rfl (by rw [zW_get (by omega), zE_o (c := 10) (by decide) (by decide)]; rfl)
  refine lv_aload_n hx hb d0 rfl g3 ?_
  refine lv_iconst (v := Int32.ofInt 0) hx hb d1 rfl ?_
  refine lv_aload_n hx hb d2 rfl g0 ?_
  refine lv_iload_n hx hb d3 rfl g1 ?_
  refine lv_iload_n hx hb d4 rfl g2 ?_
  have hrun := vx_runV (e := e) (below := below) (meth := meth) (H := s.heap) (locs := []) (cells := 0) (slots := 0) (R := (headSpec wsLc { frames := d + 9, cells := 1, slots := 6, locals := 60 * (d + 9) }).room) (As := [(0, a), (0, k)].map (zc G)) (rest := [.int (Int32.ofInt 0), .ref (zad G 114)]) (g := F0 m 5 ls [.int (Int32.ofInt k), .int (Int32.ofInt a), .ref (zad G 0), .int (Int32.ofInt 0), .ref (zad G 114)]) ⟨hx, hb, hml, hown, hts⟩ (x_W_cell (G := G) (d := d) (a := a) (k := k) hl hA) (cwV 2 hts g_Lc rfl rfl rfl ⟨by decide +kernel, by decide +kernel, by decide +kernel, by decide +kernel⟩ ⟨by show d + 8 + 1 ≤ d + 9; omega, by show 8 + (4 + 11) + 60 * (d + 8) ≤ 60 * (d + 9); omega⟩) ⟨zPcX_blind, hrecv, fun U hU hW => ⟨zPc_pre hP hKt hZt va_S.rf hStA3 (fun q => by cases q) U hU hW, zXt_warm hW hXt⟩⟩ rfl rfl hLs.1 rfl (lv_room (Nat.le_of_ble_eq_true rfl)) d5 ⟨Nat.le_refl _, Nat.le_refl _⟩
  intro T hT X
  rcases hrun T hT X with ⟨v1, st₀, t, T', L, h0, X', hL, e1, e2, ⟨⟨v', hv, hok, hFc, hAC, hzp, hzi⟩, hF⟩, st⟩ | ⟨q, st₀, t, T', L, E9, ce, h0, X', hL, e1, e2, ⟨hE9, hno, hzp, hF⟩, hce, hcv, hcl, st⟩
  · cases hv
    have hS' : va_S (zA G) s.heap T'.heap L := ⟨by rw [e1, ← h0]; exact hF.1, fun q q1 q2 => by rw [e1, hF.2 q (by rw [h0]; exact q1) q2, h0], hL⟩
    rw [← e1] at hzp
    have W1 : W p l e (headSpec wsLc { frames := d + 9, cells := 1, slots := 6, locals := 60 * (d + 9) }).room s m ([(2, 0), (0, a), (0, k), (2, 114)].map (zc G)).toArray below meth c T'.heap L 1 6 (MQ below (lcQ G Q) ([(2, 0), (0, a), (0, k), (2, 114)].map (zc G)).toArray s 1 6 (zA G)) (F0 m 8 ls [.int (Int32.ofInt (aCellV (gW s0) (gS s0) (gC s0) a k)), .int (Int32.ofInt 0), .ref (zad G 114)]) := by
      rw [show zad G 114 = zgB G + 114 from zad_n (i := 114)]
      refine lv_i2l (v := Int64.ofInt (aCellV (gW s0) (gS s0) (gC s0) a k)) hx hb d8 (z_i2l hzi) ?_
      refine va_last hx hb hKt hzp.1 zW_D hS' 114 2 (by rw [zW_get (by omega), zE_22 (by decide)]; rfl) rfl (z_inA (j := 0) (a := 114) (by decide) zI0) d9 (fun H1 locs1 z1 z2 z3 => ?_)
      rw [z32_clamp zI0, zW_set (G := G) (md := 1) (v := v') (v' := zupd v' 114 0 (aCellV (gW s0) (gS s0) (gC s0) a k)) (n := 115) (i := 114) (by decide) (by rw [zE_22 (by decide)]; exact congrArg (fun z => (Sum.inl (zgT G 2, (zLN 114).toNat, Sum.inr (Sum.inl z)) : va_E)) (zupd_fun22 (v := v') (i := 114) (j := 0) (x := aCellV (gW s0) (gS s0) (gC s0) a k) (by decide)).symm) (fun j' _ hji => zE_ne (by omega))] at z1
      have hzp2 := zput_ok (i := 114) (j := 0) hzp (by omega) (by rw [zTg22 (by decide)]; exact Or.inr ⟨by have := hzi.1; omega, by have := hzi.2; omega⟩) z1
      refine lv_goto (tgt := 17) hx hb d10 (by decide) ?_
      refine lv_iconst (v := Int32.ofInt 0) hx hb d17 rfl ?_
      exact W.iret hx hb hr (fun t ht9 hW => ⟨⟨0, _, rfl, K1 hok v' hFc hAC, by rw [ht9]; exact hzp2, zI0⟩, z3.F ht9⟩) z3.2.2 d18
    obtain ⟨t2, a1, b1⟩ := W1 T' rfl X'
    exact ⟨t2, st t2 a1, b1⟩
  · subst hE9
    have hS' : va_S (zA G) s.heap T'.heap L := ⟨by rw [e1, ← h0]; exact hF.1, fun q q1 q2 => by rw [e1, hF.2 q (by rw [h0]; exact q1) q2, h0], hL⟩
    rw [← e1] at hzp hce
    have W1 : vx_W p l e (headSpec wsLc { frames := d + 9, cells := 1, slots := 6, locals := 60 * (d + 9) }).room s m ([(2, 0), (0, a), (0, k), (2, 114)].map (zc G)).toArray below meth c T'.heap L 1 6 (MQ below (lcQ G Q) ([(2, 0), (0, a), (0, k), (2, 114)].map (zc G)).toArray s 1 6 (zA G)) (F0 m 5 ls [.int (Int32.ofInt 0), .ref (zad G 114)]) q := by
      refine vx_catch (own := "WarmWallLaw") (name := xN) (E := xN) (ce := ce) hown [] ⟨0, 10, 13, 13⟩ [] htab (fun z hz => nomatch hz) (by decide) (by decide) (hts _ (zwd_ok (i := 4198) (by decide +kernel))) (va_Nw.use rfl hXt.2.1) hce hcv hcl ?_
      refine lv_astore hx hb d13 (zlist_has hLs) (by decide) rfl (fun ls' hl' => ?_)
      refine lv_iconst (v := Int32.ofInt 1) hx hb d15 rfl ?_
      exact W.iret hx hb hr (fun t ht9 hW => ⟨⟨1, v, rfl, K2 hno, by rw [ht9]; exact hzp, ⟨by decide, by decide⟩⟩, hS'.F ht9⟩) hS'.2.2 d16
    obtain ⟨t2, a1, b1⟩ := W1 T' rfl X'
    exact ⟨t2, st.trans a1, b1⟩
