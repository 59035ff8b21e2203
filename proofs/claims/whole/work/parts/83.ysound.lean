/-! the same rows over contexts of which more is known -/
theorem yzJ_msk {Ee : yE} {l : Launch} {G : zG} {md d : Nat} {h : zHdr} {n0 : Nat} {Q : Int → zH → Prop} {QX : Nat → zH → Prop} {pc : Nat} {L st : List zV} {v : zH} {n : Nat} (m : List Bool) (k : yJp Ee l G md d h n0 Q QX pc (zmsk m L) st v n) : yJp Ee l G md d h n0 Q QX pc L st v n := by
  intro p e R s m' args below meth c QW C hEe H locs ls hP hS hLs hSt a1 a2 a3
  exact k p e R s m' args below meth c QW C hEe H locs ls hP hS (zmsk_ok m hLs) hSt a1 a2 a3
theorem yzbudget_b {Ee : yE} {l : Launch} {G : zG} {md d : Nat} {h : zHdr} {n0 : Nat} {Q : Int → zH → Prop} {QX : Nat → zH → Prop} {pc : Nat} {L st : List zV} {v : zH} {n : Nat} (k : n0 ≤ n → n ≤ n0 + hMc h → zSZ n ≤ zSZ n0 + hMs h → yJp Ee l G md d h n0 Q QX pc L st v n) : yJp Ee l G md d h n0 Q QX pc L st v n := by
  intro p e R s m' args below meth c QW C hEe H locs ls hP hS hLs hSt a1 a2 a3
  exact k a1 a2 a3 p e R s m' args below meth c QW C hEe H locs ls hP hS hLs hSt a1 a2 a3
theorem yzstk_b {Ee : yE} {l : Launch} {G : zG} {md d : Nat} {h : zHdr} {n0 : Nat} {Q : Int → zH → Prop} {QX : Nat → zH → Prop} {pc : Nat} {L st : List zV} {v : zH} {n : Nat} (k : zStk n st → yJp Ee l G md d h n0 Q QX pc L st v n) : yJp Ee l G md d h n0 Q QX pc L st v n := by
  intro p e R s m' args below meth c QW C hEe H locs ls hP hS hLs hSt a1 a2 a3
  exact k hSt p e R s m' args below meth c QW C hEe H locs ls hP hS hLs hSt a1 a2 a3
set_option maxRecDepth 100000 in
theorem yzstep_ok {Ee : yE} {l : Launch} {G : zG} {md d : Nat} {h : zHdr} {code : List zIns} {n0 : Nat} {Q : Int → zH → Prop} {QX : Nat → zH → Prop} {go : zGo} {p : Nat} {e : zIns} {L st : List zV} {v : zH} {n : Nat} (he : code[p]? = some e) (hck : zce h code p e = true) (hLL : L.length = hL h)
    (hgo : ∀ (q : Nat) (L : List zV) (st : List zV) (v : zH) (n : Nat), L.length = hL h → go (code.drop q) L st v n → yJ Ee l G md d h code n0 Q QX q L st v n)
    (hs : zstep l G md d h code n0 Q QX go e (code.drop (p + 1)) L st v n) : yJ Ee l G md d h code n0 Q QX p L st v n := by
  have hck0 : ∃ b1 b2 : Bool, (b1 = true ∧ decode (hB h) (iPc e) = .ok (iI e, iLen e)) ∧ (Nat.beq (zlen (iI e)) 0 || Nat.beq (iLen e) (zlen (iI e))) = true ∧ (!(zfall (iI e)) || znx code (p + 1) (iPc e + iLen e) || zexc (iI e) (iR e)) = true ∧ zci h code e = true := by
    unfold zce at hck
    have g1 := z_and hck
    have g2 := z_and g1.1
    have g3 := z_and g2.1
    have g4 := z_and g3.1
    exact ⟨_, true, ⟨g4.1, of_decide_eq_true g4.2⟩, g3.2, g2.2, g1.2⟩
  clear hck
  obtain ⟨b1, b2, ⟨hb1, hdecA⟩, hln, hfl, hci⟩ := hck0
  clear hb1
  have hln2 : zlen (iI e) ≠ 0 → iLen e = zlen (iI e) := by
    intro q
    rw [Bool.or_eq_true] at hln
    rcases hln with h0 | h0
    · exact absurd (Nat.eq_of_beq_eq_true h0) q
    · exact Nat.eq_of_beq_eq_true h0
  have hdec2 : zlen (iI e) ≠ 0 → decode (hB h) (iPc e) = .ok (iI e, zlen (iI e)) := by
    intro q
    rw [← hln2 q]
    exact hdecA
  have hpc : zpc code p = iPc e := by unfold zpc; rw [he]
  have nx : zfall (iI e) = true ∧ zexc (iI e) (iR e) = false ∧ zlen (iI e) ≠ 0 → ∀ (L : List zV) (st : List zV) (v : zH) (n : Nat), L.length = hL h → go (code.drop (p + 1)) L st v n → yJp Ee l G md d h n0 Q QX (iPc e + zlen (iI e)) L st v n := by
    intro hf L st v n hl hg
    have key := hgo (p + 1) L st v n hl hg
    rw [hf.1, hf.2.1] at hfl
    simp only [Bool.not_true, Bool.false_or, Bool.or_false] at hfl
    have e2 : zpc code (p + 1) = iPc e + iLen e := by
      unfold znx at hfl
      unfold zpc
      cases he' : code[p + 1]? with
      | none => rw [he'] at hfl; cases hfl
      | some e' => rw [he'] at hfl; exact Nat.eq_of_beq_eq_true hfl
    unfold yJ at key
    rw [e2, hln2 hf.2.2] at key
    exact key
  unfold yJ
  rw [hpc]
  obtain ⟨pos, pc, cut, ins, len, R⟩ := e
  cases ins
  all_goals try exact False.elim hs
  all_goals change yJp Ee l G md d h n0 Q QX pc L st v n
  all_goals try have hdec := hdec2 (Nat.succ_ne_zero _)
  case iconst k =>
    exact yzs_iconst hdec ⟨of_decide_eq_true (z_and hci).1, of_decide_eq_true (z_and hci).2⟩ (nx ⟨rfl, rfl, Nat.succ_ne_zero _⟩ _ _ _ _ hLL hs)
  case bipush k =>
    exact yzs_bipush hdec (of_decide_eq_true (z_and hci).1) (of_decide_eq_true (z_and hci).2) (nx ⟨rfl, rfl, Nat.succ_ne_zero _⟩ _ _ _ _ hLL hs)
  case sipush k =>
    exact yzs_sipush hdec (of_decide_eq_true (z_and hci).1) (of_decide_eq_true (z_and hci).2) (nx ⟨rfl, rfl, Nat.succ_ne_zero _⟩ _ _ _ _ hLL hs)
  case ldc i =>
    simp only [zstep, zci, iI, iR] at hs hci
    by_cases hC : rC R = 0
    · rw [hC] at hs hci
      simp only at hs hci
      split at hci
      · have h1 := z_and hci
        have h2 := z_and h1.1
        exact yzs_ldc hdec (zwd_ok h2.1) ⟨of_decide_eq_true h2.2, of_decide_eq_true h1.2⟩ (nx ⟨rfl, rfl, Nat.succ_ne_zero _⟩ _ _ _ _ hLL hs)
      · cases hci
    · obtain ⟨c, hc⟩ : ∃ c, rC R = c + 1 := ⟨rC R - 1, by omega⟩
      rw [hc] at hs hci
      simp only at hs hci
      have h1 := z_and hci
      have h2 : hO h = "WarmWall$Wall" := of_decide_eq_true h1.1
      have h3 := h1.2
      simp only [Bool.or_eq_true, Bool.and_eq_true, decide_eq_true_eq] at h3
      rcases h3 with (⟨e1, e2⟩ | ⟨e1, e2⟩) | ⟨e1, e2⟩
      · rw [of_decide_eq_true e2] at hs; subst e1; exact yzs_ldcS (tx := "thg") (x := -11) hdec (fun U H q => by rw [h2]; exact q.2.2.2.2.1.1) (by omega) (nx ⟨rfl, rfl, Nat.succ_ne_zero _⟩ _ _ _ _ hLL hs)
      · rw [of_decide_eq_true e2] at hs; subst e1; exact yzs_ldcS (tx := "rcfuh") (x := -12) hdec (fun U H q => by rw [h2]; exact q.2.2.2.2.1.2.1) (by omega) (nx ⟨rfl, rfl, Nat.succ_ne_zero _⟩ _ _ _ _ hLL hs)
      · rw [of_decide_eq_true e2] at hs; subst e1; exact yzs_ldcS (tx := "wf") (x := -13) hdec (fun U H q => by rw [h2]; exact q.2.2.2.2.1.2.2) (by omega) (nx ⟨rfl, rfl, Nat.succ_ne_zero _⟩ _ _ _ _ hLL hs)
  case ldc_w i =>
    simp only [zstep, zci, iI, iR] at hs hci
    split at hci
    · have h1 := z_and hci
      have h2 := z_and h1.1
      exact yzs_ldcw hdec (zwd_ok h2.1) ⟨of_decide_eq_true h2.2, of_decide_eq_true h1.2⟩ (nx ⟨rfl, rfl, Nat.succ_ne_zero _⟩ _ _ _ _ hLL hs)
    · cases hci
  case ldc2_w i =>
    simp only [zstep, zci, iI, iR] at hs hci
    split at hci
    · have h1 := z_and hci
      have h2 := z_and h1.1
      exact yzs_ldc2 hdec (zwd_ok h2.1) ⟨of_decide_eq_true h2.2, of_decide_eq_true h1.2⟩ (nx ⟨rfl, rfl, Nat.succ_ne_zero _⟩ _ _ _ _ hLL hs)
    · cases hci
  case lconst f =>
    exact yzs_lconst hdec (nx ⟨rfl, rfl, Nat.succ_ne_zero _⟩ _ _ _ _ hLL hs)
  case iload i =>
    obtain ⟨x, h1, h2⟩ := zget_i hs
    exact yzs_iload hdec h1 (nx ⟨rfl, rfl, Nat.succ_ne_zero _⟩ _ _ _ _ hLL h2)
  case iload_n i =>
    obtain ⟨x, h1, h2⟩ := zget_i hs
    exact yzs_iload_n hdec h1 (nx ⟨rfl, rfl, Nat.succ_ne_zero _⟩ _ _ _ _ hLL h2)
  case lload i =>
    obtain ⟨x, h1, h2⟩ := zget_i hs
    exact yzs_lload hdec h1 (nx ⟨rfl, rfl, Nat.succ_ne_zero _⟩ _ _ _ _ hLL h2)
  case lload_n i =>
    obtain ⟨x, h1, h2⟩ := zget_i hs
    exact yzs_lload_n hdec h1 (nx ⟨rfl, rfl, Nat.succ_ne_zero _⟩ _ _ _ _ hLL h2)
  case aload i =>
    obtain ⟨x, h1, h2⟩ := zget_i hs
    exact yzs_aload hdec h1 (nx ⟨rfl, rfl, Nat.succ_ne_zero _⟩ _ _ _ _ hLL h2)
  case aload_n i =>
    obtain ⟨x, h1, h2⟩ := zget_i hs
    exact yzs_aload_n hdec h1 (nx ⟨rfl, rfl, Nat.succ_ne_zero _⟩ _ _ _ _ hLL h2)
  case istore i =>
    obtain ⟨x, r, rfl, h1⟩ := z1_i hs
    obtain ⟨h2, h3, h4⟩ := zput_i h1
    exact yzs_istore hdec h3 hLL h2 (nx ⟨rfl, rfl, Nat.succ_ne_zero _⟩ _ _ _ _ (by rw [List.length_set]; exact hLL) h4)
  case istore_n i =>
    obtain ⟨x, r, rfl, h1⟩ := z1_i hs
    obtain ⟨h2, h3, h4⟩ := zput_i h1
    exact yzs_istore_n hdec h3 hLL h2 (nx ⟨rfl, rfl, Nat.succ_ne_zero _⟩ _ _ _ _ (by rw [List.length_set]; exact hLL) h4)
  case astore i =>
    obtain ⟨x, r, rfl, h1⟩ := z1r_i hs
    obtain ⟨h2, h3, h4⟩ := zput_i h1
    exact yzs_astore hdec h3 hLL h2 (nx ⟨rfl, rfl, Nat.succ_ne_zero _⟩ _ _ _ _ (by rw [List.length_set]; exact hLL) h4)
  case astore_n i =>
    obtain ⟨x, r, rfl, h1⟩ := z1r_i hs
    obtain ⟨h2, h3, h4⟩ := zput_i h1
    exact yzs_astore_n hdec h3 hLL h2 (nx ⟨rfl, rfl, Nat.succ_ne_zero _⟩ _ _ _ _ (by rw [List.length_set]; exact hLL) h4)
  case lstore i =>
    obtain ⟨x, r, rfl, h1⟩ := z1l_i hs
    obtain ⟨h2, h3, h4⟩ := zput2_i h1
    exact yzs_lstore hdec h3 hLL h2 (nx ⟨rfl, rfl, Nat.succ_ne_zero _⟩ _ _ _ _ (by rw [List.length_set, List.length_set]; exact hLL) h4)
  case lstore_n i =>
    obtain ⟨x, r, rfl, h1⟩ := z1l_i hs
    obtain ⟨h2, h3, h4⟩ := zput2_i h1
    exact yzs_lstore_n hdec h3 hLL h2 (nx ⟨rfl, rfl, Nat.succ_ne_zero _⟩ _ _ _ _ (by rw [List.length_set, List.length_set]; exact hLL) h4)
  case iinc i k =>
    obtain ⟨x, h1, h2, h3⟩ := zget_i hs
    obtain ⟨h4, h5, h6⟩ := zput_i h3
    exact yzs_iinc hdec h1 hLL h4 h2 (nx ⟨rfl, rfl, Nat.succ_ne_zero _⟩ _ _ _ _ (by rw [List.length_set]; exact hLL) h6)
  case iadd =>
    obtain ⟨x, y, r, rfl, h1, h2⟩ := z2_i hs
    exact yzs_iadd hdec h1 (nx ⟨rfl, rfl, Nat.succ_ne_zero _⟩ _ _ _ _ hLL h2)
  case isub =>
    obtain ⟨x, y, r, rfl, h1, h2⟩ := z2_i hs
    exact yzs_isub hdec h1 (nx ⟨rfl, rfl, Nat.succ_ne_zero _⟩ _ _ _ _ hLL h2)
  case imul =>
    obtain ⟨x, y, r, rfl, h1, h2⟩ := z2_i hs
    exact yzs_imul hdec h1 (nx ⟨rfl, rfl, Nat.succ_ne_zero _⟩ _ _ _ _ hLL h2)
  case ladd =>
    obtain ⟨x, y, r, rfl, h1, h2⟩ := z2l_i hs
    exact yzs_ladd hdec h1 (nx ⟨rfl, rfl, Nat.succ_ne_zero _⟩ _ _ _ _ hLL h2)
  case lsub =>
    obtain ⟨x, y, r, rfl, h1, h2⟩ := z2l_i hs
    exact yzs_lsub hdec h1 (nx ⟨rfl, rfl, Nat.succ_ne_zero _⟩ _ _ _ _ hLL h2)
  case lmul =>
    obtain ⟨x, y, r, rfl, h1, h2⟩ := z2l_i hs
    exact yzs_lmul hdec h1 (nx ⟨rfl, rfl, Nat.succ_ne_zero _⟩ _ _ _ _ hLL h2)
  case idiv =>
    obtain ⟨x, y, r, rfl, h1⟩ := z2_i hs
    simp only [iR] at h1
    split at h1
    · unfold zpos at h1
      split at h1
      · rename_i k
        refine yzstk_b fun hq => ?_
        have hxr := (zStk_c.mp (zStk_c.mp hq).2).1.1
        exact yzs_idiv hdec (by first | (simp; done) | (simp; omega)) (zI_tdiv hxr (by first | (simp; done) | (simp; omega))) (nx ⟨rfl, rfl, Nat.succ_ne_zero _⟩ _ _ _ _ hLL h1)
      · exact h1.elim
    · exact yzs_idiv hdec h1.1 h1.2.1 (nx ⟨rfl, rfl, Nat.succ_ne_zero _⟩ _ _ _ _ hLL h1.2.2)
  case irem =>
    obtain ⟨x, y, r, rfl, h1⟩ := z2_i hs
    simp only [iR] at h1
    split at h1
    · unfold zpos at h1
      split at h1
      · rename_i k
        refine yzstk_b fun hq => ?_
        have hxr := (zStk_c.mp (zStk_c.mp hq).2).1.1
        exact yzs_irem hdec (by first | (simp; done) | (simp; omega)) (zI_tdiv hxr (by first | (simp; done) | (simp; omega))) (nx ⟨rfl, rfl, Nat.succ_ne_zero _⟩ _ _ _ _ hLL h1)
      · exact h1.elim
    · exact yzs_irem hdec h1.1 h1.2.1 (nx ⟨rfl, rfl, Nat.succ_ne_zero _⟩ _ _ _ _ hLL h1.2.2)
  case ldiv =>
    obtain ⟨x, y, r, rfl, h1, h2, h3⟩ := z2l_i hs
    exact yzs_ldiv hdec h1 h2 (nx ⟨rfl, rfl, Nat.succ_ne_zero _⟩ _ _ _ _ hLL h3)
  case iand =>
    obtain ⟨x, y, r, rfl, h2⟩ := z2_i hs
    exact yzs_iand hdec (nx ⟨rfl, rfl, Nat.succ_ne_zero _⟩ _ _ _ _ hLL h2)
  case ior =>
    obtain ⟨x, y, r, rfl, h2⟩ := z2_i hs
    exact yzs_ior hdec (nx ⟨rfl, rfl, Nat.succ_ne_zero _⟩ _ _ _ _ hLL h2)
  case ixor =>
    obtain ⟨x, y, r, rfl, h2⟩ := z2_i hs
    exact yzs_ixor hdec (nx ⟨rfl, rfl, Nat.succ_ne_zero _⟩ _ _ _ _ hLL h2)
  case ishl =>
    obtain ⟨x, y, r, rfl, h2⟩ := z2_i hs
    exact yzs_ishl hdec (nx ⟨rfl, rfl, Nat.succ_ne_zero _⟩ _ _ _ _ hLL h2)
  case ishr =>
    obtain ⟨x, y, r, rfl, h2⟩ := z2_i hs
    exact yzs_ishr hdec (nx ⟨rfl, rfl, Nat.succ_ne_zero _⟩ _ _ _ _ hLL h2)
  case iushr =>
    obtain ⟨x, y, r, rfl, h2⟩ := z2_i hs
    exact yzs_iushr hdec (nx ⟨rfl, rfl, Nat.succ_ne_zero _⟩ _ _ _ _ hLL h2)
  case lcmp =>
    obtain ⟨x, y, r, rfl, h2⟩ := z2l_i hs
    exact yzs_lcmp hdec (nx ⟨rfl, rfl, Nat.succ_ne_zero _⟩ _ _ _ _ hLL h2)
  case ineg =>
    obtain ⟨x, r, rfl, h1, h2⟩ := z1_i hs
    exact yzs_ineg hdec h1 (nx ⟨rfl, rfl, Nat.succ_ne_zero _⟩ _ _ _ _ hLL h2)
  case i2c =>
    obtain ⟨x, r, rfl, h1, h2⟩ := z1_i hs
    exact yzs_i2c hdec h1 (nx ⟨rfl, rfl, Nat.succ_ne_zero _⟩ _ _ _ _ hLL h2)
  case i2l =>
    obtain ⟨x, r, rfl, h2⟩ := z1_i hs
    exact yzs_i2l hdec (nx ⟨rfl, rfl, Nat.succ_ne_zero _⟩ _ _ _ _ hLL h2)
  case l2i =>
    obtain ⟨x, r, rfl, h1, h2⟩ := z1l_i hs
    exact yzs_l2i hdec h1 (nx ⟨rfl, rfl, Nat.succ_ne_zero _⟩ _ _ _ _ hLL h2)
  case dup =>
    simp only [zstep, iI] at hs
    split at hs
    · split at hs
      · exact hs.elim
      · rename_i ht
        exact yzs_dup hdec ht (nx ⟨rfl, rfl, Nat.succ_ne_zero _⟩ _ _ _ _ hLL hs)
    · exact hs.elim
  case dup2 =>
    simp only [zstep, iI] at hs
    split at hs
    · exact yzs_dup2 hdec (nx ⟨rfl, rfl, Nat.succ_ne_zero _⟩ _ _ _ _ hLL hs)
    · exact hs.elim
  case pop =>
    simp only [zstep, iI] at hs
    split at hs
    · exact yzs_pop hdec (nx ⟨rfl, rfl, Nat.succ_ne_zero _⟩ _ _ _ _ hLL hs)
    · exact hs.elim
  case ifCond cnd off =>
    obtain ⟨x, r, rfl, h1⟩ := z1_i hs
    have ht := ztg_ok (show ztg code (rA R) pc off = true from hci)
    cases cnd
    case eq => exact yzs_if_eq hdec ht (fun q => hgo _ _ _ _ _ hLL (h1.1 q)) (fun q => nx ⟨rfl, rfl, Nat.succ_ne_zero _⟩ _ _ _ _ hLL (h1.2 q))
    case ne => exact yzs_if_ne hdec ht (fun q => hgo _ _ _ _ _ hLL (h1.1 q)) (fun q => nx ⟨rfl, rfl, Nat.succ_ne_zero _⟩ _ _ _ _ hLL (h1.2 q))
    case lt => exact yzs_if_lt hdec ht (fun q => hgo _ _ _ _ _ hLL (h1.1 q)) (fun q => nx ⟨rfl, rfl, Nat.succ_ne_zero _⟩ _ _ _ _ hLL (h1.2 q))
    case ge => exact yzs_if_ge hdec ht (fun q => hgo _ _ _ _ _ hLL (h1.1 q)) (fun q => nx ⟨rfl, rfl, Nat.succ_ne_zero _⟩ _ _ _ _ hLL (h1.2 q))
    case gt => exact yzs_if_gt hdec ht (fun q => hgo _ _ _ _ _ hLL (h1.1 q)) (fun q => nx ⟨rfl, rfl, Nat.succ_ne_zero _⟩ _ _ _ _ hLL (h1.2 q))
    case le => exact yzs_if_le hdec ht (fun q => hgo _ _ _ _ _ hLL (h1.1 q)) (fun q => nx ⟨rfl, rfl, Nat.succ_ne_zero _⟩ _ _ _ _ hLL (h1.2 q))
  case if_icmp cnd off =>
    obtain ⟨x, y, r, rfl, h1⟩ := z2_i hs
    have ht := ztg_ok (show ztg code (rA R) pc off = true from hci)
    cases cnd
    case eq => exact yzs_icmp_eq hdec ht (fun q => hgo _ _ _ _ _ hLL (h1.1 q)) (fun q => nx ⟨rfl, rfl, Nat.succ_ne_zero _⟩ _ _ _ _ hLL (h1.2 q))
    case ne => exact yzs_icmp_ne hdec ht (fun q => hgo _ _ _ _ _ hLL (h1.1 q)) (fun q => nx ⟨rfl, rfl, Nat.succ_ne_zero _⟩ _ _ _ _ hLL (h1.2 q))
    case lt => exact yzs_icmp_lt hdec ht (fun q => hgo _ _ _ _ _ hLL (h1.1 q)) (fun q => nx ⟨rfl, rfl, Nat.succ_ne_zero _⟩ _ _ _ _ hLL (h1.2 q))
    case ge => exact yzs_icmp_ge hdec ht (fun q => hgo _ _ _ _ _ hLL (h1.1 q)) (fun q => nx ⟨rfl, rfl, Nat.succ_ne_zero _⟩ _ _ _ _ hLL (h1.2 q))
    case gt => exact yzs_icmp_gt hdec ht (fun q => hgo _ _ _ _ _ hLL (h1.1 q)) (fun q => nx ⟨rfl, rfl, Nat.succ_ne_zero _⟩ _ _ _ _ hLL (h1.2 q))
    case le => exact yzs_icmp_le hdec ht (fun q => hgo _ _ _ _ _ hLL (h1.1 q)) (fun q => nx ⟨rfl, rfl, Nat.succ_ne_zero _⟩ _ _ _ _ hLL (h1.2 q))
  case goto off =>
    exact yzs_goto hdec (ztg_ok (show ztg code (rA R) pc off = true from hci)) (hgo _ _ _ _ _ hLL hs)
  case tableswitch dflt lo hi offs =>
    obtain ⟨x, r, rfl, h1, h2⟩ := z1_i hs
    obtain ⟨q0, q6⟩ := z_and hci
    obtain ⟨q0, q5⟩ := z_and q0
    obtain ⟨q0, q4⟩ := z_and q0
    obtain ⟨q0, q3⟩ := z_and q0
    obtain ⟨q1, q2⟩ := z_and q0
    refine yzs_tsw hdecA (of_decide_eq_true q2) (of_decide_eq_true q3) (of_decide_eq_true q5) (of_decide_eq_true q6) (ztg_ok q1) (fun k o t a b => ?_) (fun q => hgo _ _ _ _ _ hLL (h1 q)) ?_
    · have hz : (List.zip offs.toList (rW R))[k]? = some (o, t) := List.getElem?_zip_eq_some.mpr ⟨a, b⟩
      exact ztg_ok (List.all_eq_true.mp q4 _ (List.mem_of_getElem? hz))
    · exact zsw_mono (fun t ht => hgo _ _ _ _ _ hLL ht) h2
  case lookupswitch dflt ps =>
    obtain ⟨x, r, rfl, h2⟩ := z1_i hs
    obtain ⟨q0, q4⟩ := z_and hci
    obtain ⟨q0, q3⟩ := z_and q0
    obtain ⟨q1, q2⟩ := z_and q0
    refine yzs_lsw hdecA (of_decide_eq_true q2) q4 (ztg_ok q1) (fun k o t a b => ?_) ?_
    · have hz : (List.zip ps.toList (rW R))[k]? = some (o, t) := List.getElem?_zip_eq_some.mpr ⟨a, b⟩
      exact ztg_ok (List.all_eq_true.mp q3 _ (List.mem_of_getElem? hz))
    · exact zlk_mono (fun t ht => hgo _ _ _ _ _ hLL ht) h2
  case getfield i =>
    obtain ⟨a, r, rfl, h1⟩ := z1r_i hs
    simp only [zgetf, zci, iI, iR] at h1 hci
    split at h1
    · rename_i hC; rw [hC] at hci; simp only at hci
      obtain ⟨q0, q2⟩ := z_and hci
      obtain ⟨q0, q1⟩ := z_and q0
      have e1 := Nat.eq_of_beq_eq_true q1; have e2 := Nat.eq_of_beq_eq_true q2
      exact yzs_getf hdec q0 h1.1 e1 (fun i hi => by subst hi; exact zfv_n (by rw [h1.1, e2]; simp)) (Or.inl rfl) (Or.inr rfl) (nx ⟨rfl, rfl, Nat.succ_ne_zero _⟩ _ _ _ _ hLL h1.2)
    · rename_i hC; rw [hC] at hci; simp only at hci
      obtain ⟨q0, q2⟩ := z_and hci
      obtain ⟨q0, q1⟩ := z_and q0
      have e1 := Nat.eq_of_beq_eq_true q1; have e2 := Nat.eq_of_beq_eq_true q2
      exact yzs_getf hdec q0 h1.1 e1 (fun i hi => by subst hi; exact zfv_n (by rw [h1.1, e2]; simp)) (Or.inr rfl) (Or.inl h1.2.1) (nx ⟨rfl, rfl, Nat.succ_ne_zero _⟩ _ _ _ _ hLL h1.2.2)
    · rename_i hC; rw [hC] at hci; simp only at hci
      obtain ⟨q0, q2⟩ := z_and hci
      obtain ⟨q0, q1⟩ := z_and q0
      have e1 := Nat.eq_of_beq_eq_true q1; have e2 := of_decide_eq_true q2
      split at h1
      · refine yzs_getf hdec q0 h1.1 rfl (fun i hi => by subst hi; exact zfv_f (by rw [h1.1, e1]; simp) (by unfold zFK; rw [h1.1, e1, if_neg (by omega), e2])) (zFT_02 _ _) (Or.inl ?_) (nx ⟨rfl, rfl, Nat.succ_ne_zero _⟩ _ _ _ _ hLL h1.2)
        have h9 := zCL_lt24 h1.1 (zfld_ok q0).1; have h8 := zFn_off (rA R) (rB R); rw [e1, e2] at h8; have h7 := h8 rfl; omega
      · rename_i hmd
        exact yzs_getf hdec q0 h1.1 rfl (fun i hi => by subst hi; exact zfv_n (fun z => hmd z.1)) (zFT_02 _ _) (Or.inl h1.2.1) (nx ⟨rfl, rfl, Nat.succ_ne_zero _⟩ _ _ _ _ hLL h1.2.2)
    · rename_i hC; rw [hC] at hci; simp only at hci
      obtain ⟨q0, q1⟩ := z_and hci
      have e1 := Nat.eq_of_beq_eq_true q1
      split at h1
      · refine yzs_getf hdec q0 h1.1 rfl (fun i hi => by subst hi; exact zfv_f (by rw [h1.1, e1]; simp) (by unfold zFK; rw [h1.1, e1, if_pos rfl])) (zFT_02 _ _) (Or.inl ?_) (nx ⟨rfl, rfl, Nat.succ_ne_zero _⟩ _ _ _ _ hLL h1.2)
        exact zKT_ne _ _
      · rename_i hmd
        exact yzs_getf hdec q0 h1.1 rfl (fun i hi => by subst hi; exact zfv_n (fun z => hmd z.1)) (zFT_02 _ _) (Or.inl h1.2.1) (nx ⟨rfl, rfl, Nat.succ_ne_zero _⟩ _ _ _ _ hLL h1.2.2)
    · rename_i hC; rw [hC] at hci; simp only at hci
      split at hci
      · exact yzs_sval hdec (zwd_ok hci) h1.1 (nx ⟨rfl, rfl, Nat.succ_ne_zero _⟩ _ _ _ _ hLL h1.2)
      · cases hci
    · rename_i n0 n1 n2 n3 n5
      split at hci
      · rename_i e; exact absurd e n0
      · rename_i e; exact absurd e n1
      · rename_i e; exact absurd e n2
      · rename_i e; exact absurd e n3
      · rename_i e; exact absurd e n5
      · split at hci
        · exact yzs_scod hdec (zwd_ok hci) h1.1 (nx ⟨rfl, rfl, Nat.succ_ne_zero _⟩ _ _ _ _ hLL h1.2)
        · cases hci
  case putfield i =>
    obtain ⟨t, x, a, r, rfl, h0, h1⟩ := zpf_i hs
    simp only [zputf, zci, iI, iR] at h0 h1 hci
    split at h1
    · exact h1.elim
    · rename_i ht; have ht := Nat.eq_of_beq_eq_true ht
      obtain ⟨q0, q1⟩ := z_and hci
      split at h1
      · rename_i hC; rw [hC] at q1; simp only [Bool.and_eq_true, Bool.not_eq_true'] at q1
        exact yzs_putf hdec q0 h0 ht.symm (Or.inl ⟨Nat.eq_of_beq_eq_true q1.1.1, ht.trans (Nat.eq_of_beq_eq_true q1.1.2)⟩) (Or.inl q1.2) (zfin_n (zfld_ok q0).1 (zfld_ok q0).2.1 q1.2) (nx ⟨rfl, rfl, Nat.succ_ne_zero _⟩ _ _ _ _ hLL h1)
      · rename_i hC; rw [hC] at q1; simp only [Bool.and_eq_true, Bool.not_eq_true'] at q1
        exact yzs_putf hdec q0 h0 ht.symm (Or.inr (Or.inl ⟨Nat.eq_of_beq_eq_true q1.1.1, ht.trans (Nat.eq_of_beq_eq_true q1.1.2), h1.1⟩)) (Or.inl q1.2) (zfin_n (zfld_ok q0).1 (zfld_ok q0).2.1 q1.2) (nx ⟨rfl, rfl, Nat.succ_ne_zero _⟩ _ _ _ _ hLL h1.2)
      · rename_i hC; rw [hC] at q1; simp only [Bool.and_eq_true, Bool.not_eq_true'] at q1
        exact yzs_putf hdec q0 h0 ht.symm (Or.inr (Or.inr ⟨Nat.eq_of_beq_eq_true q1.1.1, ht.trans (Nat.eq_of_beq_eq_true q1.1.2)⟩)) (Or.inl q1.2) (zfin_n (zfld_ok q0).1 (zfld_ok q0).2.1 q1.2) (nx ⟨rfl, rfl, Nat.succ_ne_zero _⟩ _ _ _ _ hLL h1)
      · rename_i c0 c1 c2
        split at h1
        · split at q1
          · rename_i e; exact absurd e c0
          · rename_i e; exact absurd e c1
          · rename_i e; exact absurd e c2
          · simp only [Bool.and_eq_true] at q1
            exact yzs_putf hdec q0 h0 ht.symm (Or.inl ⟨Nat.eq_of_beq_eq_true q1.1.1.1.1, ht.trans (Nat.eq_of_beq_eq_true q1.1.1.1.2)⟩) (Or.inr ⟨q1.1.1.2, q1.1.2, of_decide_eq_true q1.2⟩) (fun z => by cases z.1) (nx ⟨rfl, rfl, Nat.succ_ne_zero _⟩ _ _ _ _ hLL h1)
          · simp only [Bool.and_eq_true] at q1
            exact yzs_putf hdec q0 h0 ht.symm (Or.inr (Or.inr ⟨Nat.eq_of_beq_eq_true q1.1.1.1.1, ht.trans (Nat.eq_of_beq_eq_true q1.1.1.1.2)⟩)) (Or.inr ⟨q1.1.1.2, q1.1.2, of_decide_eq_true q1.2⟩) (fun z => by cases z.1) (nx ⟨rfl, rfl, Nat.succ_ne_zero _⟩ _ _ _ _ hLL h1)
        · exact h1.elim
  case getstatic i =>
    simp only [zstep, zci, iI, iR] at hs hci
    split at hci
    · rename_i w hW
      split at hs
      · rename_i hC; rw [hC] at hci; simp only at hci
        obtain ⟨q0, q2⟩ := z_and hci
        obtain ⟨q0, q1⟩ := z_and q0
        rw [of_decide_eq_true q1] at hs
        exact yzs_gst0 hdec (of_decide_eq_true q0) (zwd_ok q2) (nx ⟨rfl, rfl, Nat.succ_ne_zero _⟩ _ _ _ _ hLL hs)
      · rename_i hC; rw [hC] at hci; simp only at hci
        exact yzs_gst1 hdec (zwd_ok hci) (nx ⟨rfl, rfl, Nat.succ_ne_zero _⟩ _ _ _ _ hLL hs)
      · rename_i c0 c1
        split at hci
        · rename_i e; exact absurd e c0
        · rename_i e; exact absurd e c1
        · obtain ⟨q0, q1⟩ := z_and hci
          rw [of_decide_eq_true q0] at hs
          exact yzs_gst2 hdec (zwd_ok q1) (nx ⟨rfl, rfl, Nat.succ_ne_zero _⟩ _ _ _ _ hLL hs)
    · cases hci
  case iaload =>
    obtain ⟨a, j, r, rfl, h1⟩ := zix_i hs
    simp only [iR] at h1
    split at h1
    · exact yzs_iald hdec h1.1 h1.2.1 (nx ⟨rfl, rfl, Nat.succ_ne_zero _⟩ _ _ _ _ hLL h1.2.2)
    · exact yzs_sld hdec h1.1 h1.2.1 (nx ⟨rfl, rfl, Nat.succ_ne_zero _⟩ _ _ _ _ hLL h1.2.2)
    · obtain ⟨rfl, h2, h3⟩ := h1
      exact yzs_cld hdec h2 (nx ⟨rfl, rfl, Nat.succ_ne_zero _⟩ _ _ _ _ hLL h3)
  case baload =>
    obtain ⟨a, j, r, rfl, h1⟩ := zix_i hs
    simp only [iR] at h1
    split at h1
    · exact yzs_zald hdec h1.1 h1.2.1 (nx ⟨rfl, rfl, Nat.succ_ne_zero _⟩ _ _ _ _ hLL h1.2.2)
    · exact yzs_bld hdec h1.1 h1.2.1 (nx ⟨rfl, rfl, Nat.succ_ne_zero _⟩ _ _ _ _ hLL h1.2.2)
  case laload =>
    obtain ⟨a, j, r, rfl, h1, h2, h3⟩ := zix_i hs
    exact yzs_lald hdec h1 h2 (nx ⟨rfl, rfl, Nat.succ_ne_zero _⟩ _ _ _ _ hLL h3)
  case aaload =>
    obtain ⟨a, j, r, rfl, h1, h2, h3, h4⟩ := zix_i hs
    exact yzs_aald hdec h1 h2 h3 (nx ⟨rfl, rfl, Nat.succ_ne_zero _⟩ _ _ _ _ hLL h4)
  case iastore =>
    obtain ⟨a, j, x, r, rfl, h1, h2, h3⟩ := zixv_i hs
    exact yzs_iast hdec h1 h2 (nx ⟨rfl, rfl, Nat.succ_ne_zero _⟩ _ _ _ _ hLL h3)
  case bastore =>
    obtain ⟨a, j, x, r, rfl, h1, h2, h3, h4⟩ := zixv_i hs
    exact yzs_zast hdec h1 h2 h3 (nx ⟨rfl, rfl, Nat.succ_ne_zero _⟩ _ _ _ _ hLL h4)
  case lastore =>
    obtain ⟨a, j, x, r, rfl, h1, h2, h3⟩ := zixv_i hs
    exact yzs_last hdec h1 h2 (nx ⟨rfl, rfl, Nat.succ_ne_zero _⟩ _ _ _ _ hLL h3)
  case aastore =>
    obtain ⟨a, j, x, r, rfl, h1, h2, h3, h4⟩ := zixv_i hs
    exact yzs_aast hdec h1 h2 h3 (nx ⟨rfl, rfl, Nat.succ_ne_zero _⟩ _ _ _ _ hLL h4)
  case arraylength =>
    obtain ⟨a, r, rfl, h1⟩ := z1r_i hs
    simp only [iR] at h1
    split at h1
    · exact yzs_len hdec (h1.1.imp id Or.inl) (nx ⟨rfl, rfl, Nat.succ_ne_zero _⟩ _ _ _ _ hLL h1.2)
    · exact yzs_slen hdec (Or.inl h1.1) (nx ⟨rfl, rfl, Nat.succ_ne_zero _⟩ _ _ _ _ hLL h1.2)
    · exact yzs_slen hdec (Or.inr h1.1) (nx ⟨rfl, rfl, Nat.succ_ne_zero _⟩ _ _ _ _ hLL h1.2)
    · exact yzs_len hdec (Or.inr (Or.inr h1.1)) (nx ⟨rfl, rfl, Nat.succ_ne_zero _⟩ _ _ _ _ hLL h1.2)
    · obtain ⟨rfl, h3⟩ := h1
      exact yzs_clen hdec (nx ⟨rfl, rfl, Nat.succ_ne_zero _⟩ _ _ _ _ hLL h3)
  case new i =>
    simp only [zstep, zci, iI, iR, iPc] at hs hci
    split at hs
    · exact yzs_exc hs.1 hs.2.1 hs.2.2
    · rename_i c9
      split at hci
      · rename_i e; exact absurd e c9
      · split at hci
        · obtain ⟨q0, q3⟩ := z_and hci
          obtain ⟨q0, q2⟩ := z_and q0
          obtain ⟨q0, q1⟩ := z_and q0
          obtain ⟨a1, a2, a3, a4, a5⟩ := znew_i hs
          exact yzs_new hdec (of_decide_eq_true q0) (zwd_ok q1) (zwd_ok q2) (zwd_ok q3) a2 a1 a3 a4 (nx ⟨rfl, by simp only [zexc, iI, iR]; exact zbeq9 c9, Nat.succ_ne_zero _⟩ _ _ _ _ hLL a5)
        · cases hci
  case newarray t =>
    obtain ⟨x, r, rfl, h1⟩ := z1_i hs
    simp only [zci, iI, iR] at h1 hci
    obtain ⟨a1, a2, a3, a4, a5, a6⟩ := znew_i h1
    split at hci
    · have hA : rA R = 20 := by assumption
      rw [hA] at a2
      exact yzs_newi hdec (zwd_ok hci) a2 a1 a3 a4 a5 (nx ⟨rfl, rfl, Nat.succ_ne_zero _⟩ _ _ _ _ hLL a6)
    · have hA : rA R = 21 := by assumption
      rw [hA] at a2
      exact yzs_newz hdec (zwd_ok hci) a2 a1 a3 a4 a5 (nx ⟨rfl, rfl, Nat.succ_ne_zero _⟩ _ _ _ _ hLL a6)
    · have hA : rA R = 22 := by assumption
      rw [hA] at a2
      exact yzs_newl hdec (zwd_ok hci) a2 a1 a3 a4 a5 (nx ⟨rfl, rfl, Nat.succ_ne_zero _⟩ _ _ _ _ hLL a6)
    · cases hci
  case anewarray i =>
    obtain ⟨x, r, rfl, h1⟩ := z1_i hs
    simp only [zci, iI, iR] at hci
    obtain ⟨a1, a2, a3, a4, a5, a6⟩ := znew_i h1
    split at hci
    · exact yzs_newq hdec (zwd_ok hci) a2 a1 a3 a4 a5 (nx ⟨rfl, rfl, Nat.succ_ne_zero _⟩ _ _ _ _ hLL a6)
    · cases hci
  case invokestatic i =>
    simp only [zci, iI, iR] at hci
    obtain ⟨q0, hinv⟩ := z_and hci
    simp only [zstep, iI, iR] at hs
    split at hs
    · exact hs.elim
    · rename_i hk
      obtain ⟨w1, w2, w3, w4⟩ := zinv_7 hinv hk
      split at hs
      · obtain ⟨⟨a1, a2⟩, a3, a4⟩ := hs
        obtain ⟨d', rfl, a5⟩ := zdp_i a4
        split at a5
        · rename_i hcat
          exact yzs_copy hdec w1 w2 w3 w4 (by omega) a1 a2 a3 (Nat.le_trans (zcats_ok _) (Nat.le_of_ble_eq_true hcat)) (nx ⟨rfl, rfl, Nat.succ_ne_zero _⟩ _ _ _ _ hLL a5)
        · exact a5.elim
      · exact hs.elim
    · rename_i hk
      obtain ⟨w1, w2, w3, w4⟩ := zinv_10 hinv hk
      obtain ⟨x, y, r, rfl, h1⟩ := z2_i hs
      obtain ⟨g1, g2, g3⟩ := zprim_i (G := G) h1
      exact yzs_mmax hdec w1 w2 w3 w4 g1 g2 (nx ⟨rfl, rfl, Nat.succ_ne_zero _⟩ _ _ _ _ hLL g3)
    · rename_i hk
      obtain ⟨w1, w2, w3, w4⟩ := zinv_11 hinv hk
      obtain ⟨x, y, r, rfl, h1⟩ := z2_i hs
      obtain ⟨g1, g2, g3⟩ := zprim_i (G := G) h1
      exact yzs_mmin hdec w1 w2 w3 w4 g1 g2 (nx ⟨rfl, rfl, Nat.succ_ne_zero _⟩ _ _ _ _ hLL g3)
    · rename_i hk
      obtain ⟨w1, w2, w3, w4⟩ := zinv_12 hinv hk
      obtain ⟨x, r, rfl, hneg, h1⟩ := z1_i hs
      obtain ⟨g1, g2, g3⟩ := zprim_i (G := G) h1
      exact yzs_mabs hdec w1 w2 w3 w4 g1 g2 hneg (nx ⟨rfl, rfl, Nat.succ_ne_zero _⟩ _ _ _ _ hLL g3)
    · rename_i hk
      obtain ⟨w1, w2, w3, w4⟩ := zinv_13 hinv hk
      obtain ⟨x, y, r, rfl, h1⟩ := z2l_i hs
      obtain ⟨g1, g2, g3⟩ := zprim_i (G := G) h1
      exact yzs_mmaxl hdec w1 w2 w3 w4 g1 g2 (nx ⟨rfl, rfl, Nat.succ_ne_zero _⟩ _ _ _ _ hLL g3)
    · rename_i hk
      obtain ⟨w1, w2, w3, w4⟩ := zinv_14 hinv hk
      obtain ⟨x, y, r, rfl, h1⟩ := z2l_i hs
      obtain ⟨g1, g2, g3⟩ := zprim_i (G := G) h1
      exact yzs_mminl hdec w1 w2 w3 w4 g1 g2 (nx ⟨rfl, rfl, Nat.succ_ne_zero _⟩ _ _ _ _ hLL g3)
    · rename_i hk6a hk7 hk10 hk11 hk12 hk13 hk14
      by_cases hk : rA R = 2
      · have hm := zinv_m hinv (by omega)
        obtain ⟨i4, ⟨w1, w2, w3⟩, hcode⟩ := zinv_2 hinv hk
        refine yzbudget_b fun b1 b2 b3 => ?_
        obtain ⟨d', rfl, hbud, hcat, hlen, hC⟩ := zcall_i hm (fun _ => ⟨b2, b3⟩) hs
        have key := yzs_callS (l := l) (G := G) (md := md) (d := d') (h := h) (n0 := n0) (Q := Q) (QX := QX) (L := L) hdec hm hcode hm.2.2.2.2 hcat (by rw [List.length_reverse]; exact hlen) w1 w2 w3 hbud hC (fun r1 v1 q => nx ⟨rfl, rfl, Nat.succ_ne_zero _⟩ _ _ _ _ hLL q)
        rw [zst_split hlen] at key
        exact key
      · exfalso
        have h2 := (z_and hinv).2
        simp only [Bool.or_eq_true] at q0
        have hk6 : 5 < rA R := by
          rcases q0 with q | q
          · exact absurd (Nat.eq_of_beq_eq_true q) hk
          · simpa using q
        split at h2
        all_goals first | omega | (simp_all; done)
  case invokevirtual i =>
    simp only [zci, iI, iR] at hci
    obtain ⟨q0, hinv⟩ := z_and hci
    have hm := zinv_m hinv (by simp only [Bool.or_eq_true] at q0; rcases q0 with q | q <;> rw [Nat.eq_of_beq_eq_true q] <;> omega)
    obtain ⟨o, r, hdrop, hclo, h1⟩ := zrecv_i hs
    refine yzbudget_b fun b1 b2 b3 => ?_
    obtain ⟨d', rfl, hbud, hcat, hlen, hC⟩ := zcall_i hm (fun _ => ⟨b2, b3⟩) h1
    obtain ⟨s1, s2, s3⟩ := zst_split1 hdrop hlen
    rw [s1] at hC
    simp only [Bool.or_eq_true] at q0
    rcases q0 with q | q
    · obtain ⟨i5, ⟨w1, w2, w3, w4⟩, hcode, hcn, hrc⟩ := zinv_0 hinv (Nat.eq_of_beq_eq_true q)
      have key := yzs_callV (l := l) (G := G) (md := md) (d := d') (h := h) (n0 := n0) (Q := Q) (QX := QX) (L := L) (o := o) hdec hm hcode hm.2.2.2.2 hcat s3 w1 w2 w3 w4 hcn hrc hclo hbud hC (fun r1 v1 q => nx ⟨rfl, rfl, Nat.succ_ne_zero _⟩ _ _ _ _ hLL q)
      rw [← s2] at key
      exact key
    · obtain ⟨i6, x, ⟨w1, w2, w3, w4, w5⟩, hcode, hyx, hxd, hrc⟩ := zinv_1 hinv (Nat.eq_of_beq_eq_true q)
      have key := yzs_callU (l := l) (G := G) (md := md) (d := d') (h := h) (n0 := n0) (Q := Q) (QX := QX) (L := L) (o := o) hdec hm hcode hm.2.2.2.2 hcat s3 w1 w2 w3 w4 w5 hyx hxd (Or.inl hrc) hclo hbud hC (fun r1 v1 q => nx ⟨rfl, rfl, Nat.succ_ne_zero _⟩ _ _ _ _ hLL q)
      rw [← s2] at key
      exact key
  case invokespecial i =>
    simp only [zci, iI, iR] at hci
    obtain ⟨q0, hinv⟩ := z_and hci
    simp only [zstep, iI, iR] at hs
    split at hs
    · rename_i hk
      obtain ⟨w1, w2, w3⟩ := zinv_5 hinv hk
      obtain ⟨x, r, rfl, h1⟩ := z1r_i hs
      obtain ⟨d', rfl, a5⟩ := zdp_i h1
      split at a5
      · rename_i hcat
        exact yzs_obj hdec w1 w2 w3 (by omega) (Nat.le_trans (zcats_ok _) (Nat.le_of_ble_eq_true hcat)) (nx ⟨rfl, rfl, Nat.succ_ne_zero _⟩ _ _ _ _ hLL a5)
      · exact a5.elim
    · rename_i hk5
      have hm := zinv_m hinv (by simp only [Bool.or_eq_true] at q0; rcases q0 with (q | q) | q <;> first | (rw [Nat.eq_of_beq_eq_true q]; omega) | exact absurd (Nat.eq_of_beq_eq_true q) hk5)
      obtain ⟨o, r, hdrop, h1⟩ := zrecv_i hs
      refine yzbudget_b fun b1 b2 b3 => ?_
      obtain ⟨d', rfl, hbud, hcat, hlen, hC⟩ := zcall_i hm (fun _ => ⟨b2, b3⟩) h1
      obtain ⟨s1, s2, s3⟩ := zst_split1 hdrop hlen
      rw [s1] at hC
      simp only [Bool.or_eq_true] at q0
      rcases q0 with (q | q) | q
      · obtain ⟨i4, ⟨w1, w2, w3⟩, hcode, hnm, hRn⟩ := zinv_3 hinv (Nat.eq_of_beq_eq_true q)
        have key := yzs_callI (l := l) (G := G) (md := md) (d := d') (h := h) (n0 := n0) (Q := Q) (QX := QX) (L := L) (o := o) hdec hm hcode hm.2.2.2.2 hcat s3 w1 w2 w3 hnm hRn hbud hC (fun r1 v1 q => nx ⟨rfl, rfl, Nat.succ_ne_zero _⟩ _ _ _ _ hLL q)
        rw [← s2] at key
        exact key
      · obtain ⟨i4, ⟨w1, w2, w3⟩, hcode, hnm, hRn⟩ := zinv_4 hinv (Nat.eq_of_beq_eq_true q)
        have key := yzs_callIN (l := l) (G := G) (md := md) (d := d') (h := h) (n0 := n0) (Q := Q) (QX := QX) (L := L) (o := o) hdec hm hcode hm.2.2.2.2 hcat s3 w1 w2 w3 hnm hRn hbud hC (fun r1 v1 q => nx ⟨rfl, rfl, Nat.succ_ne_zero _⟩ _ _ _ _ hLL q)
        rw [← s2] at key
        exact key
      · exact absurd (Nat.eq_of_beq_eq_true q) hk5
  case ireturn =>
    simp only [zstep, iI] at hs
    split at hs
    · refine yzbudget_b fun b1 b2 b3 => ?_
      have hh := zrtn_i hs
      simp only [zci, iI, Bool.and_eq_true, Bool.or_eq_true] at hci
      obtain ⟨hci, hmc⟩ := hci
      have hmc := Nat.eq_of_beq_eq_true hmc
      rcases hci with q | q
      · have hT0 := Nat.eq_of_beq_eq_true q
        exact yzs_ret (t := 0) hdec hT0 rfl (by omega) b3 (fun _ => hh.1) hh.2 (by omega)
      · have hT0 := Nat.eq_of_beq_eq_true q
        exact yzs_ret (t := 4) hdec hT0 rfl (by omega) b3 (fun _ => hh.1) hh.2 (by omega)
    · exact hs.elim
  case lreturn =>
    simp only [zstep, iI] at hs
    split at hs
    · refine yzbudget_b fun b1 b2 b3 => ?_
      obtain ⟨hci, hmc⟩ := z_and hci
      have hmc := Nat.eq_of_beq_eq_true hmc
      have hT0 := Nat.eq_of_beq_eq_true hci
      exact yzs_ret (t := 1) hdec hT0 rfl (by omega) b3 (fun z => by omega) hs (by omega)
    · exact hs.elim
  case areturn =>
    simp only [zstep, iI] at hs
    split at hs
    · refine yzbudget_b fun b1 b2 b3 => ?_
      obtain ⟨hci, hmc⟩ := z_and hci
      have hmc := Nat.eq_of_beq_eq_true hmc
      have hT0 := Nat.eq_of_beq_eq_true hci
      exact yzs_ret (t := 2) hdec hT0 rfl (by omega) b3 (fun z => by omega) hs (by omega)
    · exact hs.elim
  case return_ =>
    simp only [zstep, iI] at hs
    split at hs
    · refine yzbudget_b fun b1 b2 b3 => ?_
      have hT0 := Nat.eq_of_beq_eq_true hci
      obtain ⟨g1, g2⟩ := zend_i b1 b2 hs
      exact yzs_ret (t := 3) hdec hT0 rfl g1 b3 (fun z => by omega) g2 (by omega)
    · exact hs.elim
/-- a table of which the cut points need no check -/
def yck (h : zHdr) (code : List zIns) : Bool := (List.range code.length).all (fun p => match code[p]? with
  | some e => Nat.beq (iP e) p && ((iCut e).isSome || zce h code p e)
  | none => true)
def yce (h : zHdr) (code : List zIns) (q : Nat) : Bool := match code[q]? with
  | some e => zce h code q e
  | none => false
theorem yck_at {h : zHdr} {code : List zIns} (hck : yck h code = true) {p : Nat} {e : zIns} (he : code[p]? = some e) : iP e = p ∧ ((iCut e).isSome = true ∨ zce h code p e = true) := by
  have hlt := (List.getElem?_eq_some_iff.mp he).1
  have := List.all_eq_true.mp hck p (List.mem_range.mpr hlt)
  rw [he] at this
  simp only [Bool.and_eq_true, Bool.or_eq_true] at this
  exact ⟨Nat.eq_of_beq_eq_true this.1, this.2⟩
theorem ygo {Ee : yE} {l : Launch} {G : zG} {md d : Nat} {h : zHdr} {code : List zIns} {n0 : Nat} {Q : Int → zH → Prop} {QX : Nat → zH → Prop} (hck : yck h code = true) : ∀ (f q : Nat) (L st : List zV) (v : zH) (n : Nat), yce h code q = true → L.length = hL h → zx l G md d h code n0 Q QX (yJ Ee l G md d h code n0 Q QX) f (code.drop q) L st v n → yJ Ee l G md d h code n0 Q QX q L st v n
  | 0, _, _, _, _, _, _, _, hs => hs.elim
  | f + 1, q, L, st, v, n, hq0, hLL, hs => by
    unfold zx at hs
    by_cases hq : q < code.length
    · have e1 : code.drop q = code[q] :: code.drop (q + 1) := List.drop_eq_getElem_cons hq
      rw [e1] at hs
      have hq1 : zce h code q code[q] = true := by
        unfold yce at hq0
        rw [List.getElem?_eq_getElem hq] at hq0
        exact hq0
      refine yzstep_ok (List.getElem?_eq_getElem hq) hq1 hLL (fun q2 L2 st2 v2 n2 hl2 hg => ?_) hs
      unfold zcut at hg
      by_cases hq2 : q2 < code.length
      · have e2 : code.drop q2 = code[q2] :: code.drop (q2 + 1) := List.drop_eq_getElem_cons hq2
        rw [e2] at hg
        have hce := yck_at hck (List.getElem?_eq_getElem hq2)
        generalize hE : code[q2] = E at hg hce
        obtain ⟨p0, pc0, cut, rest⟩ := E
        have hp0 : p0 = q2 := hce.1
        cases cut with
        | some m =>
          simp only at hg
          subst hp0
          exact yzJ_msk m hg
        | none =>
          simp only at hg
          refine ygo hck f q2 L2 st2 v2 n2 ?_ hl2 ?_
          · unfold yce
            rw [List.getElem?_eq_getElem hq2, hE]
            rcases hce.2 with h | h
            · cases h
            · exact h
          · rw [e2, hE]
            exact hg
      · rw [List.drop_eq_nil_of_le (by omega)] at hg
        exact hg.elim
    · rw [List.drop_eq_nil_of_le (by omega)] at hs
      exact hs.elim
