/-! THE CLASS'S cell: it answers, or throws -/
/-- the two texts of the exception, and what its making asks beside the good words -/
def zXt (U : State) : Prop := ((∃ a : Nat, vk_R "WarmWall" 140 "no such cell" a U) ∧ ∃ a : Nat, vk_R "WarmWall" 170 "no such thing of a cell" a U) ∧ va_Nw (.castable xN xN) U ∧ va_Nw (.declares (Bundle.initS xR)) U ∧ va_Nw (.declares (Bundle.initS xE)) U ∧ va_Nw (.declares (Bundle.initS Bundle.tN)) U
theorem zXt_warm {s U : State} (hW : s.WarmedH U.vm) (h : zXt s) : zXt U := by
  obtain ⟨⟨⟨a1, h1⟩, a2, h2⟩, h3, h4, h5, h6⟩ := h
  exact ⟨⟨⟨a1, h1.warm hW⟩, a2, h2.warm hW⟩, va_Nw.warmC hW h3, va_Nw.warmD hW h4, va_Nw.warmD hW h5, va_Nw.warmD hW h6⟩
theorem zXt_same {u U : State} (hv : U.vm = u.vm) (h : zXt u) : zXt U := by
  obtain ⟨⟨⟨a1, h1⟩, a2, h2⟩, h3, h4, h5, h6⟩ := h
  exact ⟨⟨⟨a1, vk_R.same hv h1⟩, a2, vk_R.same hv h2⟩, va_Nw.same rfl hv.symm h3, va_Nw.same rfl hv.symm h4, va_Nw.same rfl hv.symm h5, va_Nw.same rfl hv.symm h6⟩
def zPcX (G : zG) (As : List zV) (v : zH) (n : Nat) : Array Value → State → Prop := fun a U => zPc G 1 As v n a U ∧ zXt U
theorem zPcX_blind {G : zG} {As : List zV} {v : zH} {n : Nat} : FrameBlind (zPcX G As v n) := fun a U g mk q => ⟨zPc_blind a U g mk q.1, zXt_same (U := U.calling g mk a) rfl q.2⟩
/-- what is known of a frame of the law's class -/
def lCx (l : Launch) (G : zG) (p : Program) (s : State) (m : MethodId) (args : Array Value) : Prop :=
  (p.tables.exec = Jvm.exec ∧ s.vm.findClass "WarmWallLaw" = some m.cls ∧ ∀ w ∈ zws, w.before args s = true) ∧ zKt G s ∧ zSt G s s.heap ∧ zXt s ∧ zgB G ≤ s.heap.size
theorem lCx_again {l : Launch} {G : zG} {p : Program} {s T : State} {m : MethodId} {args : Array Value} {below : List Frame} {locs : List Loc} (h : lCx l G p s m args) (hS : va_S (zA G) s.heap T.heap locs) : lCx l G p ((T.setVm s.vm).setFrames (.invoking m args :: below)) m args := by
  obtain ⟨⟨h1, h2, h3⟩, h4, h5, h6, h7⟩ := h
  have hW0 : s.WarmedH ((T.setVm s.vm).setFrames (.invoking m args :: below)).vm := State.WarmedH.refl s
  exact ⟨⟨h1, h2, fun w hw => word_at hW0 (zws_good w hw).2 (h3 w hw)⟩, va_K.moved hW0.alike h4, zSt_warm (H := T.heap) h5 hS hW0, zXt_warm hW0 h6, Nat.le_trans h7 hS.1⟩
def QF : Int → zH → Prop := fun _ _ => False
def QXF : Nat → zH → Prop := fun _ _ => False
theorem lCx_ctx {l : Launch} {G : zG} {p : Program} {e : Env} {R : Room} {s : State} {m : MethodId} {args : Array Value} {below : List Frame} {meth : Method} {c : Code} {QW : State → Prop} (h : lCx l G p s m args) (hb : c.code = code) (hml : c.maxLocals = 7) (hf : 60 ≤ R.frames) (hlo : 3600 ≤ R.locals) : zCtx l G 1 60 h_Lw_law 115 QF QXF p e R s m args below meth c QW := by
  obtain ⟨⟨h1, h2, h3⟩, h4, h5, h6, h7⟩ := h
  exact ⟨⟨h1, hb, hml, h2, h3⟩, ⟨h4, h5, h7, (fun q => by cases q)⟩, ⟨hf, hlo, Nat.zero_le _, Nat.zero_le _⟩, (fun q => by cases q), (fun _ _ _ _ _ _ _ q => False.elim q), (fun _ _ _ _ _ q => False.elim q)⟩
def xI : List Nat := [1015, 1016, 1017, 1018, 1019, 1020, 1021, 1022, 1023, 4201, 4202, 4203, 4204, 4205, 4206, 4207, 4208, 4209, 4210, 4211, 4212, 4213, 4214, 4215, 4216, 4217, 4218, 4219, 4220, 4221, 4222, 4223, 4224, 4225, 4226, 4227, 4228, 4229, 4230, 4231, 4232, 4233, 4234, 4235, 4236, 4237, 4238, 4239, 5000, 5001, 5002, 5003, 5004, 5005, 5006, 5007, 5008, 5009, 5010, 5011, 5012, 5013, 5014, 5015, 5016, 5017, 5018, 5019, 5020, 5021, 5022, 5023, 5024, 5025, 5026, 5027, 5028, 1031, 1032, 7184]
theorem xL_in : (xL.filter vx_no).all (fun w => decide (w = .castable xN xN) || decide (w = .declares (Bundle.initS xR)) || decide (w = .declares (Bundle.initS xE)) || decide (w = .declares (Bundle.initS Bundle.tN)) || xI.any (fun i => zwd i w)) = true := by decide +kernel
theorem xL_at {args : Array Value} {s : State} (hts : ∀ w ∈ zws, w.before args s = true) (h : zXt s) : ∀ w ∈ xL.filter vx_no, w.before args s = true := by
  intro w hw
  have := List.all_eq_true.mp xL_in w hw
  simp only [Bool.or_eq_true, decide_eq_true_eq] at this
  obtain ⟨-, h3, h4, h5, h6⟩ := h
  rcases this with (((e | e) | e) | e) | e
  · rw [e]; exact va_Nw.use rfl h3
  · rw [e]; exact va_Nw.use rfl h4
  · rw [e]; exact va_Nw.use rfl h5
  · rw [e]; exact va_Nw.use rfl h6
  · obtain ⟨i, -, hi⟩ := List.any_eq_true.mp e
    exact hts w (zwd_ok hi)
theorem zP_kept {G : zG} {md : Nat} {v : zH} {n : Nat} {H H1 : Heap} (h : zP G md v n H) (h1 : H.size ≤ H1.size) (h2 : ∀ q : Nat, q < H.size → H1[q]? = H[q]?) : zP G md v n H1 := ⟨h.1.kept (fun k q hk => h2 q.1 ((h.1 k q hk).lt)), Nat.le_trans h.2.1 h1, h.2.2⟩
def cOk (s : zSg) (a k : Int) : Prop := isc (wR (gW s)) (wC (gW s)) a = true ∧ (0 ≤ k ∧ k ≤ 3)
def xQc (G : zG) (v : zH) (s0 : zSg) (a k : Int) : Array Value → State → Outcome → State → Prop := fun _ st oc t =>
  (∃ v' : zH, oc = .returned (some (.int (Int32.ofInt (aCellV (gW s0) (gS s0) (gC s0) a k)))) ∧ cOk s0 a k ∧ Fc v v' ∧ AC v' s0 ∧ zP G 1 v' 115 t.heap ∧ zI (aCellV (gW s0) (gS s0) (gC s0) a k)) ∧ va_F (zA G) st t
def xXc (G : zG) (v : zH) (s0 : zSg) (a k : Int) : String → State → State → Prop := fun E st t => E = xN ∧ ¬ cOk s0 a k ∧ zP G 1 v 115 t.heap ∧ va_F (zA G) st t
theorem d_Wc_14 : decode (hB h_W_cell) 14 = .ok (.new 138, 3) ∧ decode (hB h_W_cell) (14 + 3) = .ok (.dup, 1) ∧ decode (hB h_W_cell) (14 + 4) = .ok (.ldc 140, 2) ∧ decode (hB h_W_cell) (14 + 6) = .ok (.invokespecial 142, 3) ∧ decode (hB h_W_cell) (14 + 9) = .ok (.athrow, 1) := by decide +kernel
theorem d_Wc_133 : decode (hB h_W_cell) 133 = .ok (.new 138, 3) ∧ decode (hB h_W_cell) (133 + 3) = .ok (.dup, 1) ∧ decode (hB h_W_cell) (133 + 4) = .ok (.ldc 170, 2) ∧ decode (hB h_W_cell) (133 + 6) = .ok (.invokespecial 142, 3) ∧ decode (hB h_W_cell) (133 + 9) = .ok (.athrow, 1) := by decide +kernel
theorem x_W_cell {l : Launch} {G : zG} {d : Nat} {v : zH} {s0 : zSg} {a k : Int} (hl : l.stackTraces = false) (hA : AC v s0) :
    vx_Met l (hY h_W_cell) (zWs h_W_cell) { frames := d + 8, cells := 1, slots := 6, locals := 60 * (d + 8) } (zPcX G [(2, 0), (0, a), (0, k)] v 115) (xQc G v s0 a k) (xXc G v s0 a k) 1 6 (zA G) := by
  obtain ⟨w, k1, k2, k3, k4, k5⟩ := id hA
  have J : zJ l G 1 (d + 8) h_W_cell k_W_cell 115 (fun r v' => r = aCellV (gW s0) (gS s0) (gC s0) a k ∧ cOk s0 a k ∧ Fc v v' ∧ AC v' s0) (fun pc v' => (pc = 133 ∨ pc = 14) ∧ v' = v ∧ ¬ cOk s0 a k) 0 [(2, 0), (0, a), (0, k), (3, 0)] [] v 115 := by
    refine zgo ck_W_cell 300 0 _ _ _ _ rfl ?_
    by_cases h : cOk s0 a k
    · exact c_W_cell k1 h.1 h.2 (fun v' h1 h2 => ⟨rfl, h, Fq_Fc h1, AC_Fq k1 h1 h2 k2 k3 k4 k5⟩)
    · exact c_W_cellX k1 h ⟨⟨Or.inl rfl, rfl, h⟩, ⟨Or.inr rfl, rfl, h⟩⟩
  refine vx_ofW (cc := hB h_W_cell) (maxL := hL h_W_cell) (ret := hR h_W_cell) (by decide +kernel) rfl ?_
  intro p e s m args below meth c s₁ B hml ht hv
  obtain ⟨⟨rfl, hP, hKt, hZt, hStA, hB1⟩, hXt⟩ := hv
  have hx := B.exec
  have hb := B.bytes
  have hr := B.returns
  have hlocks := B.notSynchronized
  have hts0 := atoms_spec (ws := zWs h_W_cell) B.pre
  have hts : ∀ w ∈ zws, w.before ([(2, 0), (0, a), (0, k)].map (zc G)).toArray s = true := fun w hw => hts0 w (List.mem_cons_of_mem _ hw)
  have hown : s.vm.findClass "WarmWall" = some m.cls := findClass_of_methodNamed B.named
  rw [lg_entry_eq]
  have key := J p e (headSpec (zWs h_W_cell) { frames := d + 8, cells := 1, slots := 6, locals := 60 * (d + 8) }).room s m ([(2, 0), (0, a), (0, k)].map (zc G)).toArray below meth c (vx_MQ below (xQc G v s0 a k) (xXc G v s0 a k) ([(2, 0), (0, a), (0, k)].map (zc G)).toArray s 1 6 (zA G))
    ⟨⟨hx, hb, hml, hown, hts⟩, ⟨hKt, hZt, by have := hP.2.1; omega, hB1⟩, ⟨Nat.le_refl _, Nat.le_refl _, Nat.zero_le _, Nat.zero_le _⟩, (fun q => by cases q), ?_, ?_⟩
    s.heap [] _ hP va_S.rf (zargs_ok hStA (Nat.le_of_ble_eq_true rfl)) (fun q hq => by cases hq) (Nat.le_refl _) (Nat.le_add_right _ _) (Nat.le_add_right _ _)
  · rw [Nat.sub_self, Nat.sub_self] at key
    exact key
  · intro H locs ls pc n' r v' hq hP' hS' hrr hn' hdec hnr
    obtain ⟨rfl, h1, h2, h3⟩ := hq
    have hn' : n' = 115 := hn'
    subst hn'
    exact W.widen (k := 1) (n := 6) (Nat.zero_le _) (Nat.zero_le _) (vx_ret (W.iret hx hb hr (fun t ht9 hW => ⟨⟨v', rfl, h1, h2, h3, by rw [ht9]; exact hP', hrr⟩, hS'.F ht9⟩) hS'.2.2 hdec))
  · intro H locs ls pc v' hq hP' hS' hsz
    obtain ⟨hpc, rfl, hno⟩ := hq
    have fin : ∀ (is sa : Nat) (text : String), vk_R "WarmWall" is text sa s → (decode (hB h_W_cell) pc = .ok (.new 138, 3) ∧ decode (hB h_W_cell) (pc + 3) = .ok (.dup, 1) ∧ decode (hB h_W_cell) (pc + 4) = .ok (.ldc is, 2) ∧ decode (hB h_W_cell) (pc + 6) = .ok (.invokespecial 142, 3) ∧ decode (hB h_W_cell) (pc + 9) = .ok (.athrow, 1)) →
        W p l e (headSpec (zWs h_W_cell) { frames := d + 8, cells := 1, slots := 6, locals := 60 * (d + 8) }).room s m ([(2, 0), (0, a), (0, k)].map (zc G)).toArray below meth c H locs 0 0 (vx_MQ below (xQc G v' s0 a k) (xXc G v' s0 a k) ([(2, 0), (0, a), (0, k)].map (zc G)).toArray s 1 6 (zA G)) (F0 m pc ls []) := by
      intro is sa text hR hd
      refine x13_make hx hb hl hown (hts _ (zwd_ok (i := 4203) (by decide +kernel))) (hts _ (zwd_ok (i := 1022) (by decide +kernel))) hR (xL_at hts hXt) hZt.2.2.2.2.2.2.2.2.2.1 hZt.2.2.2.2.2.2.2.2.2.2 hS' (hsz.trans hml.symm) hd.1 hd.2.1 hd.2.2.1 hd.2.2.2.1 (by show 2 + 3 < d + 8; omega) (by show 0 + (13 * (2 + 1) + 43) ≤ 60 * (d + 8); omega) (Nat.le_refl _) (Nat.le_refl _) (fun q H1 ce h1 h2 h3 h4 h5 => ?_)
      exact x13_athrow hx hb hd.2.2.2.2 (vx_out (fun x hx => (ht x hx).elim) hlocks h1 h2 h3 (fun t ht9 _ => ⟨rfl, hno, by rw [ht9]; exact zP_kept hP' h4 h5, by rw [ht9]; exact Nat.le_trans hS'.1 h4, fun q q1 q2 => by rw [ht9, h5 q (Nat.lt_of_lt_of_le q1 hS'.1)]; exact hS'.2.1 q q1 q2⟩) hS'.2.2 (Nat.le_refl _) (Nat.le_refl _))
    rcases hpc with rfl | rfl
    · obtain ⟨sa, hR⟩ := hXt.1.2
      exact fin 170 sa _ hR d_Wc_133
    · obtain ⟨sa, hR⟩ := hXt.1.1
      exact fin 140 sa _ hR d_Wc_14
