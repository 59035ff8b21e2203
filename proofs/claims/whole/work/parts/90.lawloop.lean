/-! THE LAW'S LOOP -/
theorem va_S_tr {A : Nat → Prop} {H0 H1 H2 : Heap} {l1 l2 : List Loc} (h : va_S A H0 H1 l1) (g : va_S A H1 H2 l2) : va_S A H0 H2 (l1 ++ l2) :=
  ⟨Nat.le_trans h.1 g.1, fun q q1 q2 => (g.2.1 q (Nat.lt_of_lt_of_le q1 h.1) q2).trans (h.2.1 q q1 q2), fun z hz => (List.mem_append.mp hz).elim (h.2.2 z) (g.2.2 z)⟩
/-- the way out at the loop's head, kc cells and ks slots later, with P of the cells -/
def yEx (l : Launch) (G : zG) (kc ks : Nat) (P : zH → Prop) (i : Int) : yE := fun p e R s m args below meth c QW =>
  zXt s ∧ (kc ≤ R.cells ∧ ks ≤ R.slots) ∧
  ∀ (H : Heap) (locs : List Loc) (ls : Array Slot) (v' : zH), P v' → zP G 1 v' 115 H → va_S (zA G) s.heap H locs → zLs G 115 ls 7 [(2, -20), (2, 0), (2, 77), (2, 114), (0, i), (3, 0), (3, 0)] → W p l e R s m args below meth c H locs kc ks QW (F0 m 23 ls [])
/-- the way out at the law's end -/
def yEnd (l : Launch) (G : zG) : yE := fun p e R s m args below meth c QW =>
  ∀ (H : Heap) (locs : List Loc) (ls : Array Slot) (v' : zH), zP G 1 v' 115 H → va_S (zA G) s.heap H locs → W p l e R s m args below meth c H locs 0 0 QW (F0 m 1465 ls [])
def yBoth (E1 E2 : yE) : yE := fun p e R s m args below meth c QW => E1 p e R s m args below meth c QW ∧ E2 p e R s m args below meth c QW
theorem yJp_mono {E1 E2 : yE} {l : Launch} {G : zG} {md d : Nat} {h : zHdr} {n0 : Nat} {Q : Int → zH → Prop} {QX : Nat → zH → Prop} {pc : Nat} {L st : List zV} {v : zH} {n : Nat} (hE : ∀ (p : Program) (e : Env) (R : Room) (s : State) (m : MethodId) (args : Array Value) (below : List Frame) (meth : Method) (c : Code) (QW : State → Prop), E2 p e R s m args below meth c QW → E1 p e R s m args below meth c QW) (k : yJp E1 l G md d h n0 Q QX pc L st v n) : yJp E2 l G md d h n0 Q QX pc L st v n :=
  fun p e R s m args below meth c QW C h2 => k p e R s m args below meth c QW C (hE p e R s m args below meth c QW h2)
section
variable {l : Launch} {G : zG} {v : zH} {i B : Int} {s : zSg} {P : zH → Prop}
theorem yEx_23 {kc ks : Nat} (h : P v) : yJp (yEx l G kc ks P i) l G 1 (59 + 1) h_Lw_law 115 QF QXF 23 [(2, -20), (2, 0), (2, 77), (2, 114), (0, i), (3, 0), (3, 0)] [] v 115 := by
  intro p e R s m args below meth c QW C hE H locs ls hP hS hLs hSt a1 a2 a3
  rw [Nat.sub_self, Nat.sub_self]
  exact W.widen (Nat.zero_le _) (Nat.zero_le _) (hE.2.2 H locs ls v h hP hS hLs)
theorem d_Lw_362 : decode (hB h_Lw_law) 362 = .ok (.invokestatic 38, 3) := by decide +kernel
theorem g_Ll : GoodIn zws (va_wsS "WarmWallLaw" 38 (hY h_Lw_cell) wsLc) := by
  intro w hw
  unfold va_wsS at hw
  rcases List.mem_append.mp hw with hw | hw
  · rcases List.mem_cons.mp hw with rfl | hw
    · exact zws_good _ (zwd_ok (i := 4195) (by decide +kernel))
    · rcases List.mem_cons.mp hw with rfl | hw
      · exact zws_good _ (zwd_ok (i := 4196) (by decide +kernel))
      · rw [List.mem_singleton.mp hw]
        exact zws_good _ (zwd_ok (i := 1000) (by decide +kernel))
  · rcases List.mem_cons.mp hw with rfl | hw
    · exact zws_good _ (zwd_ok (i := 4197) (by decide +kernel))
    · exact zws_good w hw
theorem lc_call (hl : l.stackTraces = false) (hi : 0 ≤ i ∧ i + 6 ≤ zgL G) (hL : zgL G ≤ 3072) (hA : AC v s) (hM : AM v s) (hG : GOk s B) (hP0 : ∀ (v' : zH) (s' : zSg), AC v' s' → AM v' s' → GOk s' (B + 72) → P v') :
    yJp (yEx l G 1 6 P (i + 6)) l G 1 (59 + 1) h_Lw_law 115 QF QXF 362 [(2, -20), (2, 0), (2, 77), (2, 114), (0, i), (3, 0), (3, 0)] [(2, 114), (0, zgS G (i + 2)), (0, zgS G (i + 1)), (2, 0)] v 115 := by
  intro p e R s9 m args below meth c QW C hE H locs ls hP hS hLs hSt a1 a2 a3
  obtain ⟨⟨hx, hb, hml, hown, hts⟩, ⟨hKt, hZt, hB0, hB1⟩, ⟨hf1, hf2, hf3, hf4⟩, hin, hHR, hHX⟩ := id C
  obtain ⟨hXt, ⟨hR1, hR2⟩, hX⟩ := hE
  rw [Nat.sub_self, Nat.sub_self]
  have hSt4 : zStk 115 [(2, 0), (0, zgS G (i + 1)), (0, zgS G (i + 2)), (2, 114)] := fun q hq => hSt q (by simp only [List.mem_cons, List.not_mem_nil, or_false] at hq ⊢; rcases hq with h | h | h | h <;> simp [h])
  have hMet := m_Lw_cell (l := l) (G := G) (d := 50) (v := v) (s0 := s) (a := zgS G (i + 1)) (k := zgS G (i + 2)) (Q := fun r v' => (r = 0 ∧ cOk s (zgS G (i + 1)) (zgS G (i + 2)) ∧ AC v' s ∧ AM v' s ∧ v' 114 0 = aCellV (gW s) (gS s) (gC s) (zgS G (i + 1)) (zgS G (i + 2))) ∨ (r = 1 ∧ ¬ cOk s (zgS G (i + 1)) (zgS G (i + 2)) ∧ v' = v)) hl hA
    (fun hok v' f1 hA1 => Or.inl ⟨rfl, hok, AC_fr (fun b q => zup_a (by omega)) hA1, AM_fr2 (fun b q1 q2 => zup_a (by omega)) (AM_fr f1 hM), zup_s⟩) (fun hno => Or.inr ⟨rfl, hno, rfl⟩)
  have hrun := vx_runSW (e := e) (below := below) (meth := meth) (H := H) (locs := locs) (cells := 0) (slots := 0) (R := R) (As := [(2, 0), (0, zgS G (i + 1)), (0, zgS G (i + 2)), (2, 114)].map (zc G)) (rest := []) (g := F0 m 362 ls ([(2, 114), (0, zgS G (i + 2)), (0, zgS G (i + 1)), (2, 0)].map (zc G))) ⟨hx, hb, hml, hown, hts⟩ hMet (vx_cwSW 4 hts g_Ll rfl rfl rfl ⟨by decide +kernel, by decide +kernel, by decide +kernel⟩ ⟨by show 59 + 1 ≤ R.frames; omega, by show 8 + (5 + 11) + 60 * 59 ≤ R.locals; omega⟩) ⟨zPcX_blind, fun U hU hW => ⟨zPc_pre hP hKt hZt hS hSt4 (fun q => by cases q) U hU hW, zXt_warm hW hXt⟩⟩ rfl rfl hLs.1 rfl (lv_room (Nat.le_of_ble_eq_true rfl)) d_Lw_362 ⟨by omega, by omega⟩
  intro T hT X
  obtain ⟨v1, st₀, t, T', L, h0, X', hL9, e1, e2, ⟨⟨r, v', hv, hQ, hzp, hzi⟩, hF⟩, st⟩ := hrun T hT X
  cases hv
  have hS' : va_S (zA G) H T'.heap L := ⟨by rw [e1, ← h0]; exact hF.1, fun q q1 q2 => by rw [e1, hF.2 q (by rw [h0]; exact q1) q2, h0], hL9⟩
  rw [← e1] at hzp
  have hS2 := va_S_tr hS hS'
  have Cx : lCx l G p s9 m args := ⟨⟨hx, hown, hts⟩, hKt, hZt, hXt, hB0⟩
  have Cx2 := lCx_again (below := below) Cx hS2
  have Y := vx_rebase X' (R' := { frames := R.frames, locals := R.locals, cells := R.cells - 1, slots := R.slots - 6 }) (Nat.le_refl _) (Nat.le_refl _) (by show 0 + 1 + (R.cells - 1) ≤ R.cells; omega) (by show 0 + 6 + (R.slots - 6) ≤ R.slots; omega)
  have C2 := lCx_ctx (R := { frames := R.frames, locals := R.locals, cells := R.cells - 1, slots := R.slots - 6 }) (e := e) (below := below) (meth := meth) (QW := QW) Cx2 hb hml hf1 hf2
  have hv' : AC v' s ∧ AM v' s ∧ ((r = 0 ∧ cOk s (zgS G (i + 1)) (zgS G (i + 2)) ∧ v' 114 0 = aCellV (gW s) (gS s) (gC s) (zgS G (i + 1)) (zgS G (i + 2))) ∨ (r = 1 ∧ ¬ cOk s (zgS G (i + 1)) (zgS G (i + 2)))) := by
    rcases hQ with ⟨h1, h2, h3, h4, h5⟩ | ⟨h1, h2, h3⟩
    · exact ⟨h3, h4, Or.inl ⟨h1, h2, h5⟩⟩
    · rw [h3]
      exact ⟨hA, hM, Or.inr ⟨h1, h2⟩⟩
  have key := lc_4b (Ee := yEx l G 0 0 P (i + 6)) (l := l) (G := G) hi hL hv'.1 hv'.2.1 hG hv'.2.2 (fun v2 s2 b1 b2 b3 => lc_i ⟨hi.1, by omega⟩ (yEx_23 (hP0 v2 s2 b1 b2 b3))) p e _ _ m args below meth c QW C2
    ⟨Cx2.2.2.2.1, ⟨Nat.zero_le _, Nat.zero_le _⟩, fun H2 locs2 ls2 v2 p1 p2 p3 p4 => yW_back X' (hX H2 ((locs ++ L) ++ locs2) ls2 v2 p1 p2 (va_S_tr hS2 p3) p4)⟩
    T'.heap [] ls hzp va_S.rf hLs (fun q hq => by rw [List.mem_singleton.mp hq]; exact ⟨hzi, (show (0 : Nat) ≠ 3 by decide)⟩) (Nat.le_refl _) (Nat.le_add_right _ _) (Nat.le_add_right _ _)
  rw [Nat.sub_self, Nat.sub_self] at key
  obtain ⟨t2, a4, b4⟩ := key T' rfl Y
  exact ⟨t2, st t2 a4, b4⟩
theorem lc_4 (hl : l.stackTraces = false) (hi : 0 ≤ i ∧ i + 6 ≤ zgL G) (hL : zgL G ≤ 3072) (hA : AC v s) (hM : AM v s) (hG : GOk s B) (hP0 : ∀ (v' : zH) (s' : zSg), AC v' s' → AM v' s' → GOk s' (B + 72) → P v') :
    yJp (yEx l G 1 6 P (i + 6)) l G 1 (59 + 1) h_Lw_law 115 QF QXF 348 [(2, -20), (2, 0), (2, 77), (2, 114), (0, i), (3, 0), (3, 0)] [] v 115 := by
  refine ygo (code := k_L4) yk_L4 300 0 _ _ _ _ (yce_ck yk_L4 rfl) rfl (sg_L4 ?_)
  exact ⟨⟨by omega, by omega⟩, rfl, ⟨by omega, by omega⟩, ⟨by omega, by omega⟩, rfl, ⟨by omega, by omega⟩, lc_call hl hi hL hA hM hG hP0⟩
/-- once around -/
theorem lc_it (hl : l.stackTraces = false) (hi0 : 0 ≤ i) (hL : 0 ≤ zgL G ∧ zgL G ≤ 3072) (hA : AC v s) (hM : AM v s) (hG : GOk s B) (hB : 0 ≤ B ∧ B ≤ 36864) (hP0 : i + 6 ≤ zgL G → ∀ (v' : zH) (s' : zSg), AC v' s' → AM v' s' → GOk s' (B + 72) → P v') :
    yJp (yBoth (yEx l G 1 6 P (i + 6)) (yEnd l G)) l G 1 (59 + 1) h_Lw_law 115 QF QXF 23 [(2, -20), (2, 0), (2, 77), (2, 114), (0, i), (3, 0), (3, 0)] [] v 115 := by
  refine ygo (code := k_Lh) yk_Lh 300 0 _ _ _ _ (yce_ck yk_Lh rfl) rfl (sg_Lh ?_)
  refine ⟨rfl, ⟨by omega, by omega⟩, fun q => ?_, fun q => ?_⟩
  · intro p e R s9 m args below meth c QW C hE H locs ls hP hS hLs hSt a1 a2 a3
    rw [Nat.sub_self, Nat.sub_self]
    exact hE.2 H locs ls v hP hS
  · have hi : 0 ≤ i ∧ i + 6 ≤ zgL G := ⟨hi0, by omega⟩
    have hL2 := hL.2
    have K : ∀ (v' : zH) (s' : zSg), AC v' s' → AM v' s' → GOk s' (B + 72) → yJp (yBoth (yEx l G 1 6 P (i + 6)) (yEnd l G)) l G 1 (59 + 1) h_Lw_law 115 QF QXF 1459 [(2, -20), (2, 0), (2, 77), (2, 114), (0, i), (3, 0), (3, 0)] [] v' 115 := fun v' s' b1 b2 b3 => yJp_mono (fun _ _ _ _ _ _ _ _ _ _ h => h.1) (lc_i ⟨hi0, by omega⟩ (yEx_23 (hP0 hi.2 v' s' b1 b2 b3)))
    exact ⟨rfl, ⟨hi0, by omega⟩, fun _ => K v s hA hM (GOk_le (by omega) hG), fun _ => lc_0 hi hL2 hA hM hG hB K, fun _ => lc_1 hi hL2 hA hM hG hB K, fun _ => lc_2 hi hL2 hA hM hG hB K, fun _ => lc_3 hi hL2 hA hM hG hB K, fun _ => yJp_mono (fun _ _ _ _ _ _ _ _ _ _ h => h.1) (lc_4 hl hi hL2 hA hM hG (hP0 hi.2)), fun _ => lc_5 hi hL2 hA hM hG hB K, fun _ => lc_6 hi hL2 hA hM hG hB K, fun _ => lc_7 hi hL2 hA hM hG hB K, fun _ => lc_8 hi hL2 hA hM hG hB K, fun _ => lc_9 hi hL2 hA hM hG hB K, fun _ => lc_10 hi hL2 hA hM hG hB K, fun _ => lc_11 hi hL2 hA hM hG hB K, fun _ => lc_12 hi hL2 hA hM hG hB K, fun _ => lc_13 hi hL2 hA hM hG hB K, fun _ => lc_14 hi hL2 hA hM hG hB K, fun _ => lc_15 hi hL2 hA hM hG hB K, fun _ => lc_16 hi hL2 hA hM hG hB K, fun _ => lc_17 hi hL2 hA hM hG hB K, fun _ => lc_18 hi hL2 hA hM hG hB K, fun _ => lc_19 hi hL2 hA hM hG hB K, fun _ => lc_20 hi hL2 hA hM hG hB K, fun _ => lc_21 hi hL2 hA hM hG hB K, fun _ => lc_22 hi hL2 hA hM hG hB K, fun _ => lc_23 hi hL2 hA hM hG hB K, fun _ => lc_24 hi hL2 hA hM hG hB K, fun _ => lc_25 hi hL2 hA hM hG hB K, fun _ => lc_26 hi hL2 hA hM hG hB K, fun _ => lc_27 hi hL2 hA hM hG hB K, fun _ => lc_28 hi hL2 hA hM hG hB K, fun _ => lc_29 hi hL2 hA hM hG hB K, fun _ => lc_30 hi hL2 hA hM hG hB K, fun _ => lc_31 hi hL2 hA hM hG hB K, fun _ => lc_32 hi hL2 hA hM hG hB K, fun _ => lc_33 hi hL2 hA hM hG hB K, fun _ => lc_34 hi hL2 hA hM hG hB K, fun _ => lc_35 hi hL2 hA hM hG hB K, fun _ => K v s hA hM (GOk_le (by omega) hG)⟩
end
/-- THE LOOP: from its head, over what is left of the script -/
theorem lw_loop {l : Launch} {G : zG} {p : Program} {e : Env} {R : Room} {s : State} {m : MethodId} {args : Array Value} {below : List Frame} {meth : Method} {c : Code} {QW : State → Prop} (hl : l.stackTraces = false) (hb : c.code = code) (hml : c.maxLocals = 7) (Cx : lCx l G p s m args) (hL : 0 ≤ zgL G ∧ zgL G ≤ 3072) (hR : 2048 ≤ R.frames ∧ 84000 ≤ R.locals ∧ 601024 ≤ R.cells ∧ 7293034 ≤ R.slots)
    (hend : ∀ (H : Heap) (locs : List Loc) (ls : Array Slot) (v' : zH) (cells slots : Nat), cells ≤ 627 → slots ≤ 31585 → zP G 1 v' 115 H → va_S (zA G) s.heap H locs → W p l e R s m args below meth c H locs cells slots QW (F0 m 1465 ls [])) :
    ∀ (n : Nat) (i B : Int) (sg : zSg) (v : zH) (cells slots : Nat) (H : Heap) (locs : List Loc) (ls : Array Slot), 0 ≤ i → zgL G < i + 6 * n + 6 → cells + n ≤ 627 → slots + 6 * n ≤ 31585 → 0 ≤ B → B + 72 * n ≤ 36864 → AC v sg → AM v sg → GOk sg B → zP G 1 v 115 H → va_S (zA G) s.heap H locs → zLs G 115 ls 7 [(2, -20), (2, 0), (2, 77), (2, 114), (0, i), (3, 0), (3, 0)] → W p l e R s m args below meth c H locs cells slots QW (F0 m 23 ls []) := by
  intro n
  induction n using Nat.strongRecOn with
  | _ n ih =>
  intro i B sg v cells slots H locs ls h1 h2 h3 h4 h5 h6 hA hM hG hP hS hLs
  refine yW_again (R' := { frames := R.frames, locals := R.locals, cells := R.cells - cells, slots := R.slots - slots }) (Nat.le_refl _) (Nat.le_refl _) (by show cells + (R.cells - cells) ≤ R.cells; omega) (by show slots + (R.slots - slots) ≤ R.slots; omega) (fun T hT X => ?_)
  subst hT
  have Cx2 := lCx_again (below := below) Cx hS
  have C2 := lCx_ctx (R := { frames := R.frames, locals := R.locals, cells := R.cells - cells, slots := R.slots - slots }) (e := e) (below := below) (meth := meth) (QW := QW) Cx2 hb hml (by show 60 ≤ R.frames; omega) (by show 3600 ≤ R.locals; omega)
  have key := lc_it (l := l) (G := G) (P := fun v' => i + 6 ≤ zgL G ∧ ∃ s' : zSg, AC v' s' ∧ AM v' s' ∧ GOk s' (B + 72)) hl h1 hL hA hM hG ⟨h5, by omega⟩ (fun q v' s' b1 b2 b3 => ⟨q, s', b1, b2, b3⟩) p e _ _ m args below meth c QW C2
    ⟨⟨Cx2.2.2.2.1, ⟨by show 1 ≤ R.cells - cells; omega, by show 6 ≤ R.slots - slots; omega⟩, fun H2 locs2 ls2 v2 hp p2 p3 p4 => by
      obtain ⟨q, s', b1, b2, b3⟩ := hp
      exact yW_back X (ih (n - 1) (by omega) (i + 6) (B + 72) s' v2 (cells + 1) (slots + 6) H2 (locs ++ locs2) ls2 (by omega) (by omega) (by omega) (by omega) (by omega) (by omega) b1 b2 b3 p2 (va_S_tr hS p3) p4)⟩,
     fun H2 locs2 ls2 v2 p2 p3 => yW_back X (hend H2 (locs ++ locs2) ls2 v2 (cells + 0) (slots + 0) (by omega) (by omega) p2 (va_S_tr hS p3))⟩
    T.heap [] ls hP va_S.rf hLs (fun q hq => by cases hq) (Nat.le_refl _) (Nat.le_add_right _ _) (Nat.le_add_right _ _)
  rw [Nat.sub_self, Nat.sub_self] at key
  exact key
