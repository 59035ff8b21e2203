/-! one instruction after the other, over the machine -/
theorem zStk_c {n : Nat} {q : zV} {st : List zV} : zStk n (q :: st) ↔ (zRg n q.1 q.2 ∧ q.1 ≠ 3) ∧ zStk n st := List.forall_mem_cons
theorem zc_ref {G : zG} {x : Int} (h : ¬ x = -1000) : zc G (2, x) = .ref (zad G x) := by
  show (if x = -1000 then Value.null else Value.ref (zad G x)) = _
  rw [if_neg h]
theorem zRg_ref {n : Nat} {x : Int} (h : zRg n 2 x) : ¬ x = -1000 := by
  have := h.1
  omega
def zlist (G : zG) (L : List zV) : List (Nat × Value) := (List.range L.length).filterMap (fun i => match L[i]? with
  | some (3, _) => none
  | some q => some (i, zc G q)
  | none => none)
theorem zlist_mem {G : zG} {L : List zV} {i t : Nat} {x : Int} (h : L[i]? = some (t, x)) (ht : t ≠ 3) : (i, zc G (t, x)) ∈ zlist G L := by
  refine List.mem_filterMap.mpr ⟨i, List.mem_range.mpr (List.getElem?_eq_some_iff.mp h).1, ?_⟩
  rw [h]
  split
  · rename_i e; cases e; exact absurd rfl ht
  · rename_i e; cases e; rfl
  · rename_i e; cases e
theorem zlist_has {G : zG} {n nL : Nat} {ls : Array Slot} {L : List zV} (h : zLs G n ls nL L) : lv_has ls nL (zlist G L) := by
  refine ⟨h.1, h.2.1, fun q hq => ?_⟩
  obtain ⟨i, -, hi⟩ := List.mem_filterMap.mp hq
  split at hi
  · cases hi
  · rename_i q e1 e2
    cases hi
    obtain ⟨t, x⟩ := q
    exact (h.2.2 i t x e2 (fun z => by subst z; exact e1 x rfl)).1
  · cases hi
theorem zcat_1 {G : zG} {t : Nat} {x : Int} (h : t ≠ 3) : (zc G (t, x)).category = 2 → t = 1 := by
  intro hq
  unfold zc at hq
  split at hq
  · simp [Value.category] at hq
  · assumption
  · split at hq <;> simp [Value.category] at hq
  · split at hq <;> simp [Value.category] at hq
theorem zLs_set1 {G : zG} {n nL i t : Nat} {x : Int} {ls' : Array Slot} {L : List zV} {w : Value} (hp : zpl L i = false) (hi : i < L.length) (hx : zRg n t x) (hw : w = zc G (t, x)) {ls : Array Slot} (hL : zLs G n ls nL L)
    (h : lv_has ls' nL ((i, w) :: (zlist G L).filter (fun q => !(q.1 == i) && !(q.1 + 1 == i && q.2.category == 2)))) : zLs G n ls' nL (L.set i (t, x)) := by
  refine ⟨h.1, h.2.1, fun k u y hk hu => ?_⟩
  by_cases hki : k = i
  · subst hki
    rw [List.getElem?_set_self hi] at hk
    cases hk
    exact ⟨by rw [← hw]; exact h.2.2 _ List.mem_cons_self, hx⟩
  · rw [List.getElem?_set_ne (Ne.symm hki)] at hk
    refine ⟨h.2.2 (k, zc G (u, y)) (List.mem_cons_of_mem _ (List.mem_filter.mpr ⟨zlist_mem hk hu, ?_⟩)), (hL.2.2 k u y hk hu).2⟩
    have e1 : (k == i) = false := by simpa using hki
    simp only [e1, Bool.not_false, Bool.true_and, Bool.not_eq_true', Bool.and_eq_false_iff, beq_eq_false_iff_ne]
    by_cases h1 : k + 1 = i
    · right
      intro hc
      have ht := zcat_1 hu hc
      subst ht
      subst h1
      simp [zpl, hk] at hp
    · exact Or.inl h1
theorem zLs_set2 {G : zG} {n nL i : Nat} {x : Int} {ls' : Array Slot} {L : List zV} (hp : zpl L i = false) (hi : i + 1 < L.length) (hx : zRg n 1 x) {ls : Array Slot} (hL : zLs G n ls nL L)
    (h : lv_has ls' nL ((i, Value.long (Int64.ofInt x)) :: (zlist G L).filter (fun q => !(q.1 == i) && (!(q.1 == i + 1) && !(q.1 + 1 == i && q.2.category == 2))))) : zLs G n ls' nL ((L.set i (1, x)).set (i + 1) (3, 0)) := by
  refine ⟨h.1, h.2.1, fun k u y hk hu => ?_⟩
  by_cases hk1 : k = i + 1
  · subst hk1
    rw [List.getElem?_set_self (by simpa using hi)] at hk
    cases hk
    exact absurd rfl hu
  · rw [List.getElem?_set_ne (Ne.symm hk1)] at hk
    by_cases hki : k = i
    · subst hki
      rw [List.getElem?_set_self (by omega)] at hk
      cases hk
      exact ⟨h.2.2 _ List.mem_cons_self, hx⟩
    · rw [List.getElem?_set_ne (Ne.symm hki)] at hk
      refine ⟨h.2.2 (k, zc G (u, y)) (List.mem_cons_of_mem _ (List.mem_filter.mpr ⟨zlist_mem hk hu, ?_⟩)), (hL.2.2 k u y hk hu).2⟩
      have e1 : (k == i) = false := by simpa using hki
      have e2 : (k == i + 1) = false := by simpa using hk1
      simp only [e1, e2, Bool.not_false, Bool.true_and, Bool.not_eq_true', Bool.and_eq_false_iff, beq_eq_false_iff_ne]
      by_cases h1 : k + 1 = i
      · right
        intro hc
        have ht := zcat_1 hu hc
        subst ht
        subst h1
        simp [zpl, hk] at hp
      · exact Or.inl h1
theorem zs_iconst {l : Launch} {G : zG} {md d : Nat} {h : zHdr} {n0 : Nat} {Q : Int → zH → Prop} {QX : Nat → zH → Prop} {pc : Nat} {L st : List zV} {v : zH} {n : Nat} {x : Int} (hd : decode (hB h) pc = .ok (.iconst x, 1)) (hx0 : zI x) (k : zJp l G md d h n0 Q QX (pc + 1) L ((0, x) :: st) v n) : zJp l G md d h n0 Q QX pc L st v n := by
  intro p e R s m args below meth c QW C H locs ls hP hS hL hSt a1 a2 a3
  obtain ⟨⟨hx, hb, hml, hown, hts⟩, ⟨hKt, hZt, hB0, hB1⟩, ⟨hf1, hf2, hf3, hf4⟩, hin, hHR, hHX⟩ := id C
  refine lv_iconst (v := Int32.ofInt x) hx hb hd rfl ?_
  exact k p e R s m args below meth c QW C H locs ls hP hS hL (zStk_c.mpr ⟨⟨hx0, by simp⟩, hSt⟩) a1 a2 a3
theorem zs_bipush {l : Launch} {G : zG} {md d : Nat} {h : zHdr} {n0 : Nat} {Q : Int → zH → Prop} {QX : Nat → zH → Prop} {pc : Nat} {L st : List zV} {v : zH} {n : Nat} {x : Int} (hd : decode (hB h) pc = .ok (.bipush x, 2)) (h1 : -128 ≤ x) (h2 : x ≤ 127) (k : zJp l G md d h n0 Q QX (pc + 2) L ((0, x) :: st) v n) : zJp l G md d h n0 Q QX pc L st v n := by
  intro p e R s m args below meth c QW C H locs ls hP hS hL hSt a1 a2 a3
  obtain ⟨⟨hx, hb, hml, hown, hts⟩, ⟨hKt, hZt, hB0, hB1⟩, ⟨hf1, hf2, hf3, hf4⟩, hin, hHR, hHX⟩ := id C
  refine lv_bipush (v := Int32.ofInt x) hx hb hd (z_i8 h1 h2) ?_
  exact k p e R s m args below meth c QW C H locs ls hP hS hL (zStk_c.mpr ⟨⟨⟨by omega, by omega⟩, by simp⟩, hSt⟩) a1 a2 a3
theorem zs_sipush {l : Launch} {G : zG} {md d : Nat} {h : zHdr} {n0 : Nat} {Q : Int → zH → Prop} {QX : Nat → zH → Prop} {pc : Nat} {L st : List zV} {v : zH} {n : Nat} {x : Int} (hd : decode (hB h) pc = .ok (.sipush x, 3)) (h1 : -32768 ≤ x) (h2 : x ≤ 32767) (k : zJp l G md d h n0 Q QX (pc + 3) L ((0, x) :: st) v n) : zJp l G md d h n0 Q QX pc L st v n := by
  intro p e R s m args below meth c QW C H locs ls hP hS hL hSt a1 a2 a3
  obtain ⟨⟨hx, hb, hml, hown, hts⟩, ⟨hKt, hZt, hB0, hB1⟩, ⟨hf1, hf2, hf3, hf4⟩, hin, hHR, hHX⟩ := id C
  refine lv_sipush (v := Int32.ofInt x) hx hb hd (z_i16 h1 h2) ?_
  exact k p e R s m args below meth c QW C H locs ls hP hS hL (zStk_c.mpr ⟨⟨⟨by omega, by omega⟩, by simp⟩, hSt⟩) a1 a2 a3
theorem zs_lconst {l : Launch} {G : zG} {md d : Nat} {h : zHdr} {n0 : Nat} {Q : Int → zH → Prop} {QX : Nat → zH → Prop} {pc : Nat} {L st : List zV} {v : zH} {n : Nat} {f : Fin 2} (hd : decode (hB h) pc = .ok (.lconst f, 1)) (k : zJp l G md d h n0 Q QX (pc + 1) L ((1, ((f : Nat) : Int)) :: st) v n) : zJp l G md d h n0 Q QX pc L st v n := by
  intro p e R s m args below meth c QW C H locs ls hP hS hL hSt a1 a2 a3
  obtain ⟨⟨hx, hb, hml, hown, hts⟩, ⟨hKt, hZt, hB0, hB1⟩, ⟨hf1, hf2, hf3, hf4⟩, hin, hHR, hHX⟩ := id C
  refine lv_lconst (v := Int64.ofInt ((f : Nat) : Int)) hx hb hd rfl ?_
  exact k p e R s m args below meth c QW C H locs ls hP hS hL (zStk_c.mpr ⟨⟨⟨by omega, by omega⟩, by simp⟩, hSt⟩) a1 a2 a3
theorem zs_ldc {l : Launch} {G : zG} {md d : Nat} {h : zHdr} {n0 : Nat} {Q : Int → zH → Prop} {QX : Nat → zH → Prop} {pc : Nat} {L st : List zV} {v : zH} {n : Nat} {i : Nat} {x : Int} (hd : decode (hB h) pc = .ok (.ldc i, 2)) (hw : Jvm.Cond.constant (hO h) i (Int32.ofInt x) ∈ zws) (hx0 : zI x) (k : zJp l G md d h n0 Q QX (pc + 2) L ((0, x) :: st) v n) : zJp l G md d h n0 Q QX pc L st v n := by
  intro p e R s m args below meth c QW C H locs ls hP hS hL hSt a1 a2 a3
  obtain ⟨⟨hx, hb, hml, hown, hts⟩, ⟨hKt, hZt, hB0, hB1⟩, ⟨hf1, hf2, hf3, hf4⟩, hin, hHR, hHX⟩ := id C
  refine lv_ldc (v := Int32.ofInt x) hx hb hown (hts _ hw) hd ?_
  exact k p e R s m args below meth c QW C H locs ls hP hS hL (zStk_c.mpr ⟨⟨hx0, by simp⟩, hSt⟩) a1 a2 a3
theorem zs_ldcw {l : Launch} {G : zG} {md d : Nat} {h : zHdr} {n0 : Nat} {Q : Int → zH → Prop} {QX : Nat → zH → Prop} {pc : Nat} {L st : List zV} {v : zH} {n : Nat} {i : Nat} {x : Int} (hd : decode (hB h) pc = .ok (.ldc_w i, 3)) (hw : Jvm.Cond.constant (hO h) i (Int32.ofInt x) ∈ zws) (hx0 : zI x) (k : zJp l G md d h n0 Q QX (pc + 3) L ((0, x) :: st) v n) : zJp l G md d h n0 Q QX pc L st v n := by
  intro p e R s m args below meth c QW C H locs ls hP hS hL hSt a1 a2 a3
  obtain ⟨⟨hx, hb, hml, hown, hts⟩, ⟨hKt, hZt, hB0, hB1⟩, ⟨hf1, hf2, hf3, hf4⟩, hin, hHR, hHX⟩ := id C
  refine lv_ldcw (v := Int32.ofInt x) hx hb hown (hts _ hw) hd ?_
  exact k p e R s m args below meth c QW C H locs ls hP hS hL (zStk_c.mpr ⟨⟨hx0, by simp⟩, hSt⟩) a1 a2 a3
theorem zs_ldc2 {l : Launch} {G : zG} {md d : Nat} {h : zHdr} {n0 : Nat} {Q : Int → zH → Prop} {QX : Nat → zH → Prop} {pc : Nat} {L st : List zV} {v : zH} {n : Nat} {i : Nat} {x : Int} (hd : decode (hB h) pc = .ok (.ldc2_w i, 3)) (hw : Jvm.Cond.constantLong (hO h) i (Int64.ofInt x) ∈ zws) (hx0 : zI x) (k : zJp l G md d h n0 Q QX (pc + 3) L ((1, x) :: st) v n) : zJp l G md d h n0 Q QX pc L st v n := by
  intro p e R s m args below meth c QW C H locs ls hP hS hL hSt a1 a2 a3
  obtain ⟨⟨hx, hb, hml, hown, hts⟩, ⟨hKt, hZt, hB0, hB1⟩, ⟨hf1, hf2, hf3, hf4⟩, hin, hHR, hHX⟩ := id C
  refine lv_ldc2 (v := Int64.ofInt x) hx hb hown (hts _ hw) hd ?_
  exact k p e R s m args below meth c QW C H locs ls hP hS hL (zStk_c.mpr ⟨⟨⟨by have := hx0.1; omega, by have := hx0.2; omega⟩, by simp⟩, hSt⟩) a1 a2 a3
theorem zs_ldcS {l : Launch} {G : zG} {md d : Nat} {h : zHdr} {n0 : Nat} {Q : Int → zH → Prop} {QX : Nat → zH → Prop} {pc : Nat} {L st : List zV} {v : zH} {n : Nat} {i : Nat} {x : Int} {tx : String} (hd : decode (hB h) pc = .ok (.ldc i, 2)) (hZ : ∀ U H, zSt G U H → vk_R (hO h) i tx (zgA G x) U) (hx0 : -40 ≤ x ∧ x < 0) (k : zJp l G md d h n0 Q QX (pc + 2) L ((2, x) :: st) v n) : zJp l G md d h n0 Q QX pc L st v n := by
  intro p e R s m args below meth c QW C H locs ls hP hS hL hSt a1 a2 a3
  obtain ⟨⟨hx, hb, hml, hown, hts⟩, ⟨hKt, hZt, hB0, hB1⟩, ⟨hf1, hf2, hf3, hf4⟩, hin, hHR, hHX⟩ := id C
  refine va_ldcS (q := zgA G x) hx hb hown (hZ _ _ hZt) hd ?_
  rw [show (Value.ref (zgA G x)) = zc G (2, x) by rw [zc_ref (by omega)]; simp [zad, hx0.2]]
  exact k p e R s m args below meth c QW C H locs ls hP hS hL (zStk_c.mpr ⟨⟨⟨hx0.1, by omega⟩, by simp⟩, hSt⟩) a1 a2 a3
theorem zs_iload {l : Launch} {G : zG} {md d : Nat} {h : zHdr} {n0 : Nat} {Q : Int → zH → Prop} {QX : Nat → zH → Prop} {pc : Nat} {L st : List zV} {v : zH} {n : Nat} {i : Nat} {x : Int} (hd : decode (hB h) pc = .ok (.iload i, 2)) (hl : L[i]? = some (0, x)) (k : zJp l G md d h n0 Q QX (pc + 2) L ((0, x) :: st) v n) : zJp l G md d h n0 Q QX pc L st v n := by
  intro p e R s m args below meth c QW C H locs ls hP hS hL hSt a1 a2 a3
  obtain ⟨⟨hx, hb, hml, hown, hts⟩, ⟨hKt, hZt, hB0, hB1⟩, ⟨hf1, hf2, hf3, hf4⟩, hin, hHR, hHX⟩ := id C
  refine lv_iload hx hb hd (hL.2.2 i 0 x hl (by decide)).1 ?_
  exact k p e R s m args below meth c QW C H locs ls hP hS hL (zStk_c.mpr ⟨⟨(hL.2.2 i 0 x hl (by decide)).2, by simp⟩, hSt⟩) a1 a2 a3
theorem zs_iload_n {l : Launch} {G : zG} {md d : Nat} {h : zHdr} {n0 : Nat} {Q : Int → zH → Prop} {QX : Nat → zH → Prop} {pc : Nat} {L st : List zV} {v : zH} {n : Nat} {i : Fin 4} {x : Int} (hd : decode (hB h) pc = .ok (.iload_n i, 1)) (hl : L[(i : Nat)]? = some (0, x)) (k : zJp l G md d h n0 Q QX (pc + 1) L ((0, x) :: st) v n) : zJp l G md d h n0 Q QX pc L st v n := by
  intro p e R s m args below meth c QW C H locs ls hP hS hL hSt a1 a2 a3
  obtain ⟨⟨hx, hb, hml, hown, hts⟩, ⟨hKt, hZt, hB0, hB1⟩, ⟨hf1, hf2, hf3, hf4⟩, hin, hHR, hHX⟩ := id C
  refine lv_iload_n hx hb hd rfl (hL.2.2 i 0 x hl (by decide)).1 ?_
  exact k p e R s m args below meth c QW C H locs ls hP hS hL (zStk_c.mpr ⟨⟨(hL.2.2 i 0 x hl (by decide)).2, by simp⟩, hSt⟩) a1 a2 a3
theorem zs_lload {l : Launch} {G : zG} {md d : Nat} {h : zHdr} {n0 : Nat} {Q : Int → zH → Prop} {QX : Nat → zH → Prop} {pc : Nat} {L st : List zV} {v : zH} {n : Nat} {i : Nat} {x : Int} (hd : decode (hB h) pc = .ok (.lload i, 2)) (hl : L[i]? = some (1, x)) (k : zJp l G md d h n0 Q QX (pc + 2) L ((1, x) :: st) v n) : zJp l G md d h n0 Q QX pc L st v n := by
  intro p e R s m args below meth c QW C H locs ls hP hS hL hSt a1 a2 a3
  obtain ⟨⟨hx, hb, hml, hown, hts⟩, ⟨hKt, hZt, hB0, hB1⟩, ⟨hf1, hf2, hf3, hf4⟩, hin, hHR, hHX⟩ := id C
  refine lv_lload hx hb hd (hL.2.2 i 1 x hl (by decide)).1 ?_
  exact k p e R s m args below meth c QW C H locs ls hP hS hL (zStk_c.mpr ⟨⟨(hL.2.2 i 1 x hl (by decide)).2, by simp⟩, hSt⟩) a1 a2 a3
theorem zs_lload_n {l : Launch} {G : zG} {md d : Nat} {h : zHdr} {n0 : Nat} {Q : Int → zH → Prop} {QX : Nat → zH → Prop} {pc : Nat} {L st : List zV} {v : zH} {n : Nat} {i : Fin 4} {x : Int} (hd : decode (hB h) pc = .ok (.lload_n i, 1)) (hl : L[(i : Nat)]? = some (1, x)) (k : zJp l G md d h n0 Q QX (pc + 1) L ((1, x) :: st) v n) : zJp l G md d h n0 Q QX pc L st v n := by
  intro p e R s m args below meth c QW C H locs ls hP hS hL hSt a1 a2 a3
  obtain ⟨⟨hx, hb, hml, hown, hts⟩, ⟨hKt, hZt, hB0, hB1⟩, ⟨hf1, hf2, hf3, hf4⟩, hin, hHR, hHX⟩ := id C
  refine lv_lload_n hx hb hd rfl (hL.2.2 i 1 x hl (by decide)).1 ?_
  exact k p e R s m args below meth c QW C H locs ls hP hS hL (zStk_c.mpr ⟨⟨(hL.2.2 i 1 x hl (by decide)).2, by simp⟩, hSt⟩) a1 a2 a3
theorem zs_aload {l : Launch} {G : zG} {md d : Nat} {h : zHdr} {n0 : Nat} {Q : Int → zH → Prop} {QX : Nat → zH → Prop} {pc : Nat} {L st : List zV} {v : zH} {n : Nat} {i : Nat} {x : Int} (hd : decode (hB h) pc = .ok (.aload i, 2)) (hl : L[i]? = some (2, x)) (k : zJp l G md d h n0 Q QX (pc + 2) L ((2, x) :: st) v n) : zJp l G md d h n0 Q QX pc L st v n := by
  intro p e R s m args below meth c QW C H locs ls hP hS hL hSt a1 a2 a3
  obtain ⟨⟨hx, hb, hml, hown, hts⟩, ⟨hKt, hZt, hB0, hB1⟩, ⟨hf1, hf2, hf3, hf4⟩, hin, hHR, hHX⟩ := id C
  have hg := hL.2.2 i 2 x hl (by decide)
  rw [zc_ref (zRg_ref hg.2)] at hg
  refine lv_aload hx hb hd hg.1 ?_
  rw [← zc_ref (G := G) (zRg_ref hg.2)]
  exact k p e R s m args below meth c QW C H locs ls hP hS hL (zStk_c.mpr ⟨⟨hg.2, by simp⟩, hSt⟩) a1 a2 a3
theorem zs_aload_n {l : Launch} {G : zG} {md d : Nat} {h : zHdr} {n0 : Nat} {Q : Int → zH → Prop} {QX : Nat → zH → Prop} {pc : Nat} {L st : List zV} {v : zH} {n : Nat} {i : Fin 4} {x : Int} (hd : decode (hB h) pc = .ok (.aload_n i, 1)) (hl : L[(i : Nat)]? = some (2, x)) (k : zJp l G md d h n0 Q QX (pc + 1) L ((2, x) :: st) v n) : zJp l G md d h n0 Q QX pc L st v n := by
  intro p e R s m args below meth c QW C H locs ls hP hS hL hSt a1 a2 a3
  obtain ⟨⟨hx, hb, hml, hown, hts⟩, ⟨hKt, hZt, hB0, hB1⟩, ⟨hf1, hf2, hf3, hf4⟩, hin, hHR, hHX⟩ := id C
  have hg := hL.2.2 i 2 x hl (by decide)
  rw [zc_ref (zRg_ref hg.2)] at hg
  refine lv_aload_n hx hb hd rfl hg.1 ?_
  rw [← zc_ref (G := G) (zRg_ref hg.2)]
  exact k p e R s m args below meth c QW C H locs ls hP hS hL (zStk_c.mpr ⟨⟨hg.2, by simp⟩, hSt⟩) a1 a2 a3
theorem zs_istore {l : Launch} {G : zG} {md d : Nat} {h : zHdr} {n0 : Nat} {Q : Int → zH → Prop} {QX : Nat → zH → Prop} {pc : Nat} {L r : List zV} {v : zH} {n : Nat} {i : Nat} {x : Int} (hd : decode (hB h) pc = .ok (.istore i, 2)) (hlen : i < L.length) (hLL : L.length = hL h) (hp : zpl L i = false) (k : zJp l G md d h n0 Q QX (pc + 2) (L.set i (0, x)) r v n) : zJp l G md d h n0 Q QX pc L ((0, x) :: r) v n := by
  intro p e R s m args below meth c QW C H locs ls hP hS hL hSt a1 a2 a3
  obtain ⟨⟨hx, hb, hml, hown, hts⟩, ⟨hKt, hZt, hB0, hB1⟩, ⟨hf1, hf2, hf3, hf4⟩, hin, hHR, hHX⟩ := id C
  have hq := (zStk_c.mp hSt).1.1
  show W p l e R s m args below meth c H locs (n - n0) (zSZ n - zSZ n0) QW (F0 m pc ls (.int (Int32.ofInt x) :: r.map (zc G)))
  refine lv_istore hx hb hd (zlist_has hL) (by have := hlen; omega) rfl (fun ls2 h2 => ?_)
  have hL2 := zLs_set1 hp (by have := hlen; omega) hq (rfl) hL h2
  exact k p e R s m args below meth c QW C H locs ls2 hP hS hL2 (zStk_c.mp hSt).2 a1 a2 a3
theorem zs_istore_n {l : Launch} {G : zG} {md d : Nat} {h : zHdr} {n0 : Nat} {Q : Int → zH → Prop} {QX : Nat → zH → Prop} {pc : Nat} {L r : List zV} {v : zH} {n : Nat} {i : Fin 4} {x : Int} (hd : decode (hB h) pc = .ok (.istore_n i, 1)) (hlen : (i : Nat) < L.length) (hLL : L.length = hL h) (hp : zpl L (i : Nat) = false) (k : zJp l G md d h n0 Q QX (pc + 1) (L.set (i : Nat) (0, x)) r v n) : zJp l G md d h n0 Q QX pc L ((0, x) :: r) v n := by
  intro p e R s m args below meth c QW C H locs ls hP hS hL hSt a1 a2 a3
  obtain ⟨⟨hx, hb, hml, hown, hts⟩, ⟨hKt, hZt, hB0, hB1⟩, ⟨hf1, hf2, hf3, hf4⟩, hin, hHR, hHX⟩ := id C
  have hq := (zStk_c.mp hSt).1.1
  show W p l e R s m args below meth c H locs (n - n0) (zSZ n - zSZ n0) QW (F0 m pc ls (.int (Int32.ofInt x) :: r.map (zc G)))
  refine lv_istore_n hx hb hd rfl (zlist_has hL) (by have := hlen; omega) rfl (fun ls2 h2 => ?_)
  have hL2 := zLs_set1 hp (by have := hlen; omega) hq (rfl) hL h2
  exact k p e R s m args below meth c QW C H locs ls2 hP hS hL2 (zStk_c.mp hSt).2 a1 a2 a3
theorem zs_astore {l : Launch} {G : zG} {md d : Nat} {h : zHdr} {n0 : Nat} {Q : Int → zH → Prop} {QX : Nat → zH → Prop} {pc : Nat} {L r : List zV} {v : zH} {n : Nat} {i : Nat} {x : Int} (hd : decode (hB h) pc = .ok (.astore i, 2)) (hlen : i < L.length) (hLL : L.length = hL h) (hp : zpl L i = false) (k : zJp l G md d h n0 Q QX (pc + 2) (L.set i (2, x)) r v n) : zJp l G md d h n0 Q QX pc L ((2, x) :: r) v n := by
  intro p e R s m args below meth c QW C H locs ls hP hS hL hSt a1 a2 a3
  obtain ⟨⟨hx, hb, hml, hown, hts⟩, ⟨hKt, hZt, hB0, hB1⟩, ⟨hf1, hf2, hf3, hf4⟩, hin, hHR, hHX⟩ := id C
  have hq := (zStk_c.mp hSt).1.1
  show W p l e R s m args below meth c H locs (n - n0) (zSZ n - zSZ n0) QW (F0 m pc ls (zc G (2, x) :: r.map (zc G)))
  rw [zc_ref (zRg_ref hq)]
  refine lv_astore hx hb hd (zlist_has hL) (by have := hlen; omega) rfl (fun ls2 h2 => ?_)
  have hL2 := zLs_set1 hp (by have := hlen; omega) hq ((zc_ref (zRg_ref hq)).symm) hL h2
  exact k p e R s m args below meth c QW C H locs ls2 hP hS hL2 (zStk_c.mp hSt).2 a1 a2 a3
theorem zs_astore_n {l : Launch} {G : zG} {md d : Nat} {h : zHdr} {n0 : Nat} {Q : Int → zH → Prop} {QX : Nat → zH → Prop} {pc : Nat} {L r : List zV} {v : zH} {n : Nat} {i : Fin 4} {x : Int} (hd : decode (hB h) pc = .ok (.astore_n i, 1)) (hlen : (i : Nat) < L.length) (hLL : L.length = hL h) (hp : zpl L (i : Nat) = false) (k : zJp l G md d h n0 Q QX (pc + 1) (L.set (i : Nat) (2, x)) r v n) : zJp l G md d h n0 Q QX pc L ((2, x) :: r) v n := by
  intro p e R s m args below meth c QW C H locs ls hP hS hL hSt a1 a2 a3
  obtain ⟨⟨hx, hb, hml, hown, hts⟩, ⟨hKt, hZt, hB0, hB1⟩, ⟨hf1, hf2, hf3, hf4⟩, hin, hHR, hHX⟩ := id C
  have hq := (zStk_c.mp hSt).1.1
  show W p l e R s m args below meth c H locs (n - n0) (zSZ n - zSZ n0) QW (F0 m pc ls (zc G (2, x) :: r.map (zc G)))
  rw [zc_ref (zRg_ref hq)]
  refine lv_astore_n hx hb hd rfl (zlist_has hL) (by have := hlen; omega) rfl (fun ls2 h2 => ?_)
  have hL2 := zLs_set1 hp (by have := hlen; omega) hq ((zc_ref (zRg_ref hq)).symm) hL h2
  exact k p e R s m args below meth c QW C H locs ls2 hP hS hL2 (zStk_c.mp hSt).2 a1 a2 a3
theorem zs_lstore {l : Launch} {G : zG} {md d : Nat} {h : zHdr} {n0 : Nat} {Q : Int → zH → Prop} {QX : Nat → zH → Prop} {pc : Nat} {L r : List zV} {v : zH} {n : Nat} {i : Nat} {x : Int} (hd : decode (hB h) pc = .ok (.lstore i, 2)) (hlen : i + 1 < L.length) (hLL : L.length = hL h) (hp : zpl L i = false) (k : zJp l G md d h n0 Q QX (pc + 2) ((L.set i (1, x)).set (i + 1) (3, 0)) r v n) : zJp l G md d h n0 Q QX pc L ((1, x) :: r) v n := by
  intro p e R s m args below meth c QW C H locs ls hP hS hL hSt a1 a2 a3
  obtain ⟨⟨hx, hb, hml, hown, hts⟩, ⟨hKt, hZt, hB0, hB1⟩, ⟨hf1, hf2, hf3, hf4⟩, hin, hHR, hHX⟩ := id C
  have hq := (zStk_c.mp hSt).1.1
  show W p l e R s m args below meth c H locs (n - n0) (zSZ n - zSZ n0) QW (F0 m pc ls (.long (Int64.ofInt x) :: r.map (zc G)))
  refine lv_lstore hx hb hd (zlist_has hL) (by have := hlen; omega) rfl (fun ls2 h2 => ?_)
  have hL2 := zLs_set2 hp (by have := hlen; omega) hq hL h2
  exact k p e R s m args below meth c QW C H locs ls2 hP hS hL2 (zStk_c.mp hSt).2 a1 a2 a3
theorem zs_lstore_n {l : Launch} {G : zG} {md d : Nat} {h : zHdr} {n0 : Nat} {Q : Int → zH → Prop} {QX : Nat → zH → Prop} {pc : Nat} {L r : List zV} {v : zH} {n : Nat} {i : Fin 4} {x : Int} (hd : decode (hB h) pc = .ok (.lstore_n i, 1)) (hlen : (i : Nat) + 1 < L.length) (hLL : L.length = hL h) (hp : zpl L (i : Nat) = false) (k : zJp l G md d h n0 Q QX (pc + 1) ((L.set (i : Nat) (1, x)).set ((i : Nat) + 1) (3, 0)) r v n) : zJp l G md d h n0 Q QX pc L ((1, x) :: r) v n := by
  intro p e R s m args below meth c QW C H locs ls hP hS hL hSt a1 a2 a3
  obtain ⟨⟨hx, hb, hml, hown, hts⟩, ⟨hKt, hZt, hB0, hB1⟩, ⟨hf1, hf2, hf3, hf4⟩, hin, hHR, hHX⟩ := id C
  have hq := (zStk_c.mp hSt).1.1
  show W p l e R s m args below meth c H locs (n - n0) (zSZ n - zSZ n0) QW (F0 m pc ls (.long (Int64.ofInt x) :: r.map (zc G)))
  refine lv_lstore_n hx hb hd rfl (zlist_has hL) (by have := hlen; omega) rfl (fun ls2 h2 => ?_)
  have hL2 := zLs_set2 hp (by have := hlen; omega) hq hL h2
  exact k p e R s m args below meth c QW C H locs ls2 hP hS hL2 (zStk_c.mp hSt).2 a1 a2 a3
theorem zs_iinc {l : Launch} {G : zG} {md d : Nat} {h : zHdr} {n0 : Nat} {Q : Int → zH → Prop} {QX : Nat → zH → Prop} {pc : Nat} {L st : List zV} {v : zH} {n : Nat} {i : Nat} {x b : Int} (hd : decode (hB h) pc = .ok (.iinc i b, 3)) (hl : L[i]? = some (0, x)) (hLL : L.length = hL h) (hp : zpl L i = false) (hx0 : zI (x + b)) (k : zJp l G md d h n0 Q QX (pc + 3) (L.set i (0, x + b)) st v n) : zJp l G md d h n0 Q QX pc L st v n := by
  intro p e R s m args below meth c QW C H locs ls hP hS hL hSt a1 a2 a3
  obtain ⟨⟨hx, hb, hml, hown, hts⟩, ⟨hKt, hZt, hB0, hB1⟩, ⟨hf1, hf2, hf3, hf4⟩, hin, hHR, hHX⟩ := id C
  have hlen := (List.getElem?_eq_some_iff.mp hl).1
  obtain ⟨k0, hk0⟩ := List.getElem?_of_mem (zlist_mem (G := G) hl (by decide))
  refine lv_iinc (v := Int32.ofInt (x + b)) (k := k0) (x := Int32.ofInt x) hx hb hd (zlist_has hL) hk0 (by rw [Int32.ofInt_add]) (by omega) rfl (fun ls2 h2 => ?_)
  have hL2 := zLs_set1 (t := 0) hp hlen hx0 rfl hL h2
  exact k p e R s m args below meth c QW C H locs ls2 hP hS hL2 hSt a1 a2 a3
theorem zs_iadd {l : Launch} {G : zG} {md d : Nat} {h : zHdr} {n0 : Nat} {Q : Int → zH → Prop} {QX : Nat → zH → Prop} {pc : Nat} {L r : List zV} {v : zH} {n : Nat} {x y : Int} (hd : decode (hB h) pc = .ok (.iadd, 1)) (hq0 : zI (x + y)) (k : zJp l G md d h n0 Q QX (pc + 1) L ((0, x + y) :: r) v n) : zJp l G md d h n0 Q QX pc L ((0, y) :: (0, x) :: r) v n := by
  intro p e R s m args below meth c QW C H locs ls hP hS hL hSt a1 a2 a3
  obtain ⟨⟨hx, hb, hml, hown, hts⟩, ⟨hKt, hZt, hB0, hB1⟩, ⟨hf1, hf2, hf3, hf4⟩, hin, hHR, hHX⟩ := id C
  obtain ⟨⟨hy, -⟩, hSt1⟩ := zStk_c.mp hSt
  obtain ⟨⟨hxx, -⟩, hSt2⟩ := zStk_c.mp hSt1
  show W p l e R s m args below meth c H locs (n - n0) (zSZ n - zSZ n0) QW (F0 m pc ls (.int (Int32.ofInt y) :: .int (Int32.ofInt x) :: r.map (zc G)))
  refine lv_iadd hx hb hd ?_
  rw [← Int32.ofInt_add]
  exact k p e R s m args below meth c QW C H locs ls hP hS hL (zStk_c.mpr ⟨⟨hq0, by simp⟩, hSt2⟩) a1 a2 a3
theorem zs_isub {l : Launch} {G : zG} {md d : Nat} {h : zHdr} {n0 : Nat} {Q : Int → zH → Prop} {QX : Nat → zH → Prop} {pc : Nat} {L r : List zV} {v : zH} {n : Nat} {x y : Int} (hd : decode (hB h) pc = .ok (.isub, 1)) (hq0 : zI (x - y)) (k : zJp l G md d h n0 Q QX (pc + 1) L ((0, x - y) :: r) v n) : zJp l G md d h n0 Q QX pc L ((0, y) :: (0, x) :: r) v n := by
  intro p e R s m args below meth c QW C H locs ls hP hS hL hSt a1 a2 a3
  obtain ⟨⟨hx, hb, hml, hown, hts⟩, ⟨hKt, hZt, hB0, hB1⟩, ⟨hf1, hf2, hf3, hf4⟩, hin, hHR, hHX⟩ := id C
  obtain ⟨⟨hy, -⟩, hSt1⟩ := zStk_c.mp hSt
  obtain ⟨⟨hxx, -⟩, hSt2⟩ := zStk_c.mp hSt1
  show W p l e R s m args below meth c H locs (n - n0) (zSZ n - zSZ n0) QW (F0 m pc ls (.int (Int32.ofInt y) :: .int (Int32.ofInt x) :: r.map (zc G)))
  refine lv_isub hx hb hd ?_
  rw [← Int32.ofInt_sub]
  exact k p e R s m args below meth c QW C H locs ls hP hS hL (zStk_c.mpr ⟨⟨hq0, by simp⟩, hSt2⟩) a1 a2 a3
theorem zs_imul {l : Launch} {G : zG} {md d : Nat} {h : zHdr} {n0 : Nat} {Q : Int → zH → Prop} {QX : Nat → zH → Prop} {pc : Nat} {L r : List zV} {v : zH} {n : Nat} {x y : Int} (hd : decode (hB h) pc = .ok (.imul, 1)) (hq0 : zI (x * y)) (k : zJp l G md d h n0 Q QX (pc + 1) L ((0, x * y) :: r) v n) : zJp l G md d h n0 Q QX pc L ((0, y) :: (0, x) :: r) v n := by
  intro p e R s m args below meth c QW C H locs ls hP hS hL hSt a1 a2 a3
  obtain ⟨⟨hx, hb, hml, hown, hts⟩, ⟨hKt, hZt, hB0, hB1⟩, ⟨hf1, hf2, hf3, hf4⟩, hin, hHR, hHX⟩ := id C
  obtain ⟨⟨hy, -⟩, hSt1⟩ := zStk_c.mp hSt
  obtain ⟨⟨hxx, -⟩, hSt2⟩ := zStk_c.mp hSt1
  show W p l e R s m args below meth c H locs (n - n0) (zSZ n - zSZ n0) QW (F0 m pc ls (.int (Int32.ofInt y) :: .int (Int32.ofInt x) :: r.map (zc G)))
  refine lv_imul hx hb hd ?_
  rw [← Int32.ofInt_mul]
  exact k p e R s m args below meth c QW C H locs ls hP hS hL (zStk_c.mpr ⟨⟨hq0, by simp⟩, hSt2⟩) a1 a2 a3
theorem zs_ladd {l : Launch} {G : zG} {md d : Nat} {h : zHdr} {n0 : Nat} {Q : Int → zH → Prop} {QX : Nat → zH → Prop} {pc : Nat} {L r : List zV} {v : zH} {n : Nat} {x y : Int} (hd : decode (hB h) pc = .ok (.ladd, 1)) (hq0 : zLg (x + y)) (k : zJp l G md d h n0 Q QX (pc + 1) L ((1, x + y) :: r) v n) : zJp l G md d h n0 Q QX pc L ((1, y) :: (1, x) :: r) v n := by
  intro p e R s m args below meth c QW C H locs ls hP hS hL hSt a1 a2 a3
  obtain ⟨⟨hx, hb, hml, hown, hts⟩, ⟨hKt, hZt, hB0, hB1⟩, ⟨hf1, hf2, hf3, hf4⟩, hin, hHR, hHX⟩ := id C
  obtain ⟨⟨hy, -⟩, hSt1⟩ := zStk_c.mp hSt
  obtain ⟨⟨hxx, -⟩, hSt2⟩ := zStk_c.mp hSt1
  show W p l e R s m args below meth c H locs (n - n0) (zSZ n - zSZ n0) QW (F0 m pc ls (.long (Int64.ofInt y) :: .long (Int64.ofInt x) :: r.map (zc G)))
  refine lv_ladd hx hb hd ?_
  rw [← Int64.ofInt_add]
  exact k p e R s m args below meth c QW C H locs ls hP hS hL (zStk_c.mpr ⟨⟨hq0, by simp⟩, hSt2⟩) a1 a2 a3
theorem zs_lsub {l : Launch} {G : zG} {md d : Nat} {h : zHdr} {n0 : Nat} {Q : Int → zH → Prop} {QX : Nat → zH → Prop} {pc : Nat} {L r : List zV} {v : zH} {n : Nat} {x y : Int} (hd : decode (hB h) pc = .ok (.lsub, 1)) (hq0 : zLg (x - y)) (k : zJp l G md d h n0 Q QX (pc + 1) L ((1, x - y) :: r) v n) : zJp l G md d h n0 Q QX pc L ((1, y) :: (1, x) :: r) v n := by
  intro p e R s m args below meth c QW C H locs ls hP hS hL hSt a1 a2 a3
  obtain ⟨⟨hx, hb, hml, hown, hts⟩, ⟨hKt, hZt, hB0, hB1⟩, ⟨hf1, hf2, hf3, hf4⟩, hin, hHR, hHX⟩ := id C
  obtain ⟨⟨hy, -⟩, hSt1⟩ := zStk_c.mp hSt
  obtain ⟨⟨hxx, -⟩, hSt2⟩ := zStk_c.mp hSt1
  show W p l e R s m args below meth c H locs (n - n0) (zSZ n - zSZ n0) QW (F0 m pc ls (.long (Int64.ofInt y) :: .long (Int64.ofInt x) :: r.map (zc G)))
  refine lv_lsub hx hb hd ?_
  rw [← Int64.ofInt_sub]
  exact k p e R s m args below meth c QW C H locs ls hP hS hL (zStk_c.mpr ⟨⟨hq0, by simp⟩, hSt2⟩) a1 a2 a3
theorem zs_lmul {l : Launch} {G : zG} {md d : Nat} {h : zHdr} {n0 : Nat} {Q : Int → zH → Prop} {QX : Nat → zH → Prop} {pc : Nat} {L r : List zV} {v : zH} {n : Nat} {x y : Int} (hd : decode (hB h) pc = .ok (.lmul, 1)) (hq0 : zLg (x * y)) (k : zJp l G md d h n0 Q QX (pc + 1) L ((1, x * y) :: r) v n) : zJp l G md d h n0 Q QX pc L ((1, y) :: (1, x) :: r) v n := by
  intro p e R s m args below meth c QW C H locs ls hP hS hL hSt a1 a2 a3
  obtain ⟨⟨hx, hb, hml, hown, hts⟩, ⟨hKt, hZt, hB0, hB1⟩, ⟨hf1, hf2, hf3, hf4⟩, hin, hHR, hHX⟩ := id C
  obtain ⟨⟨hy, -⟩, hSt1⟩ := zStk_c.mp hSt
  obtain ⟨⟨hxx, -⟩, hSt2⟩ := zStk_c.mp hSt1
  show W p l e R s m args below meth c H locs (n - n0) (zSZ n - zSZ n0) QW (F0 m pc ls (.long (Int64.ofInt y) :: .long (Int64.ofInt x) :: r.map (zc G)))
  refine lv_lmul hx hb hd ?_
  rw [← Int64.ofInt_mul]
  exact k p e R s m args below meth c QW C H locs ls hP hS hL (zStk_c.mpr ⟨⟨hq0, by simp⟩, hSt2⟩) a1 a2 a3
theorem zs_idiv {l : Launch} {G : zG} {md d : Nat} {h : zHdr} {n0 : Nat} {Q : Int → zH → Prop} {QX : Nat → zH → Prop} {pc : Nat} {L r : List zV} {v : zH} {n : Nat} {x y : Int} (hd : decode (hB h) pc = .ok (.idiv, 1)) (hne : ¬ y = 0) (hq0 : zI (x.tdiv y)) (k : zJp l G md d h n0 Q QX (pc + 1) L ((0, x.tdiv y) :: r) v n) : zJp l G md d h n0 Q QX pc L ((0, y) :: (0, x) :: r) v n := by
  intro p e R s m args below meth c QW C H locs ls hP hS hL hSt a1 a2 a3
  obtain ⟨⟨hx, hb, hml, hown, hts⟩, ⟨hKt, hZt, hB0, hB1⟩, ⟨hf1, hf2, hf3, hf4⟩, hin, hHR, hHX⟩ := id C
  obtain ⟨⟨hy, -⟩, hSt1⟩ := zStk_c.mp hSt
  obtain ⟨⟨hxx, -⟩, hSt2⟩ := zStk_c.mp hSt1
  show W p l e R s m args below meth c H locs (n - n0) (zSZ n - zSZ n0) QW (F0 m pc ls (.int (Int32.ofInt y) :: .int (Int32.ofInt x) :: r.map (zc G)))
  refine lv_idiv hx hb hd (fun z => hne ((z32_0 hy).mp z)) ?_
  rw [z32_div hxx hy hq0]
  exact k p e R s m args below meth c QW C H locs ls hP hS hL (zStk_c.mpr ⟨⟨hq0, by simp⟩, hSt2⟩) a1 a2 a3
theorem zs_irem {l : Launch} {G : zG} {md d : Nat} {h : zHdr} {n0 : Nat} {Q : Int → zH → Prop} {QX : Nat → zH → Prop} {pc : Nat} {L r : List zV} {v : zH} {n : Nat} {x y : Int} (hd : decode (hB h) pc = .ok (.irem, 1)) (hne : ¬ y = 0) (hq0 : zI (x.tdiv y)) (k : zJp l G md d h n0 Q QX (pc + 1) L ((0, x.tmod y) :: r) v n) : zJp l G md d h n0 Q QX pc L ((0, y) :: (0, x) :: r) v n := by
  intro p e R s m args below meth c QW C H locs ls hP hS hL hSt a1 a2 a3
  obtain ⟨⟨hx, hb, hml, hown, hts⟩, ⟨hKt, hZt, hB0, hB1⟩, ⟨hf1, hf2, hf3, hf4⟩, hin, hHR, hHX⟩ := id C
  obtain ⟨⟨hy, -⟩, hSt1⟩ := zStk_c.mp hSt
  obtain ⟨⟨hxx, -⟩, hSt2⟩ := zStk_c.mp hSt1
  show W p l e R s m args below meth c H locs (n - n0) (zSZ n - zSZ n0) QW (F0 m pc ls (.int (Int32.ofInt y) :: .int (Int32.ofInt x) :: r.map (zc G)))
  refine lv_irem hx hb hd (fun z => hne ((z32_0 hy).mp z)) ?_
  rw [z32_rem hxx hy hq0]
  exact k p e R s m args below meth c QW C H locs ls hP hS hL (zStk_c.mpr ⟨⟨zI_mod hxx hne, by simp⟩, hSt2⟩) a1 a2 a3
theorem zs_ldiv {l : Launch} {G : zG} {md d : Nat} {h : zHdr} {n0 : Nat} {Q : Int → zH → Prop} {QX : Nat → zH → Prop} {pc : Nat} {L r : List zV} {v : zH} {n : Nat} {x y : Int} (hd : decode (hB h) pc = .ok (.ldiv, 1)) (hne : ¬ y = 0) (hq0 : zLg (x.tdiv y)) (k : zJp l G md d h n0 Q QX (pc + 1) L ((1, x.tdiv y) :: r) v n) : zJp l G md d h n0 Q QX pc L ((1, y) :: (1, x) :: r) v n := by
  intro p e R s m args below meth c QW C H locs ls hP hS hL hSt a1 a2 a3
  obtain ⟨⟨hx, hb, hml, hown, hts⟩, ⟨hKt, hZt, hB0, hB1⟩, ⟨hf1, hf2, hf3, hf4⟩, hin, hHR, hHX⟩ := id C
  obtain ⟨⟨hy, -⟩, hSt1⟩ := zStk_c.mp hSt
  obtain ⟨⟨hxx, -⟩, hSt2⟩ := zStk_c.mp hSt1
  show W p l e R s m args below meth c H locs (n - n0) (zSZ n - zSZ n0) QW (F0 m pc ls (.long (Int64.ofInt y) :: .long (Int64.ofInt x) :: r.map (zc G)))
  refine lv_ldiv hx hb hd (fun z => hne ((z64_inj (x := y) (y := 0) hy ⟨by omega, by omega⟩).mp (z.trans rfl))) ?_
  rw [z64_div hxx hy hq0]
  exact k p e R s m args below meth c QW C H locs ls hP hS hL (zStk_c.mpr ⟨⟨hq0, by simp⟩, hSt2⟩) a1 a2 a3
theorem zs_iand {l : Launch} {G : zG} {md d : Nat} {h : zHdr} {n0 : Nat} {Q : Int → zH → Prop} {QX : Nat → zH → Prop} {pc : Nat} {L r : List zV} {v : zH} {n : Nat} {x y : Int} (hd : decode (hB h) pc = .ok (.iand, 1)) (k : zJp l G md d h n0 Q QX (pc + 1) L ((0, zand x y) :: r) v n) : zJp l G md d h n0 Q QX pc L ((0, y) :: (0, x) :: r) v n := by
  intro p e R s m args below meth c QW C H locs ls hP hS hL hSt a1 a2 a3
  obtain ⟨⟨hx, hb, hml, hown, hts⟩, ⟨hKt, hZt, hB0, hB1⟩, ⟨hf1, hf2, hf3, hf4⟩, hin, hHR, hHX⟩ := id C
  obtain ⟨⟨hy, -⟩, hSt1⟩ := zStk_c.mp hSt
  obtain ⟨⟨hxx, -⟩, hSt2⟩ := zStk_c.mp hSt1
  show W p l e R s m args below meth c H locs (n - n0) (zSZ n - zSZ n0) QW (F0 m pc ls (.int (Int32.ofInt y) :: .int (Int32.ofInt x) :: r.map (zc G)))
  refine lv_iand hx hb hd ?_
  rw [← z32_of (Int32.ofInt x &&& Int32.ofInt y)]
  exact k p e R s m args below meth c QW C H locs ls hP hS hL (zStk_c.mpr ⟨⟨z32_I _, by simp⟩, hSt2⟩) a1 a2 a3
theorem zs_ior {l : Launch} {G : zG} {md d : Nat} {h : zHdr} {n0 : Nat} {Q : Int → zH → Prop} {QX : Nat → zH → Prop} {pc : Nat} {L r : List zV} {v : zH} {n : Nat} {x y : Int} (hd : decode (hB h) pc = .ok (.ior, 1)) (k : zJp l G md d h n0 Q QX (pc + 1) L ((0, zor x y) :: r) v n) : zJp l G md d h n0 Q QX pc L ((0, y) :: (0, x) :: r) v n := by
  intro p e R s m args below meth c QW C H locs ls hP hS hL hSt a1 a2 a3
  obtain ⟨⟨hx, hb, hml, hown, hts⟩, ⟨hKt, hZt, hB0, hB1⟩, ⟨hf1, hf2, hf3, hf4⟩, hin, hHR, hHX⟩ := id C
  obtain ⟨⟨hy, -⟩, hSt1⟩ := zStk_c.mp hSt
  obtain ⟨⟨hxx, -⟩, hSt2⟩ := zStk_c.mp hSt1
  show W p l e R s m args below meth c H locs (n - n0) (zSZ n - zSZ n0) QW (F0 m pc ls (.int (Int32.ofInt y) :: .int (Int32.ofInt x) :: r.map (zc G)))
  refine lv_ior hx hb hd ?_
  rw [← z32_of (Int32.ofInt x ||| Int32.ofInt y)]
  exact k p e R s m args below meth c QW C H locs ls hP hS hL (zStk_c.mpr ⟨⟨z32_I _, by simp⟩, hSt2⟩) a1 a2 a3
theorem zs_ixor {l : Launch} {G : zG} {md d : Nat} {h : zHdr} {n0 : Nat} {Q : Int → zH → Prop} {QX : Nat → zH → Prop} {pc : Nat} {L r : List zV} {v : zH} {n : Nat} {x y : Int} (hd : decode (hB h) pc = .ok (.ixor, 1)) (k : zJp l G md d h n0 Q QX (pc + 1) L ((0, zxor x y) :: r) v n) : zJp l G md d h n0 Q QX pc L ((0, y) :: (0, x) :: r) v n := by
  intro p e R s m args below meth c QW C H locs ls hP hS hL hSt a1 a2 a3
  obtain ⟨⟨hx, hb, hml, hown, hts⟩, ⟨hKt, hZt, hB0, hB1⟩, ⟨hf1, hf2, hf3, hf4⟩, hin, hHR, hHX⟩ := id C
  obtain ⟨⟨hy, -⟩, hSt1⟩ := zStk_c.mp hSt
  obtain ⟨⟨hxx, -⟩, hSt2⟩ := zStk_c.mp hSt1
  show W p l e R s m args below meth c H locs (n - n0) (zSZ n - zSZ n0) QW (F0 m pc ls (.int (Int32.ofInt y) :: .int (Int32.ofInt x) :: r.map (zc G)))
  refine lv_ixor hx hb hd ?_
  rw [← z32_of (Int32.ofInt x ^^^ Int32.ofInt y)]
  exact k p e R s m args below meth c QW C H locs ls hP hS hL (zStk_c.mpr ⟨⟨z32_I _, by simp⟩, hSt2⟩) a1 a2 a3
theorem zs_ishl {l : Launch} {G : zG} {md d : Nat} {h : zHdr} {n0 : Nat} {Q : Int → zH → Prop} {QX : Nat → zH → Prop} {pc : Nat} {L r : List zV} {v : zH} {n : Nat} {x y : Int} (hd : decode (hB h) pc = .ok (.ishl, 1)) (k : zJp l G md d h n0 Q QX (pc + 1) L ((0, zshl x y) :: r) v n) : zJp l G md d h n0 Q QX pc L ((0, y) :: (0, x) :: r) v n := by
  intro p e R s m args below meth c QW C H locs ls hP hS hL hSt a1 a2 a3
  obtain ⟨⟨hx, hb, hml, hown, hts⟩, ⟨hKt, hZt, hB0, hB1⟩, ⟨hf1, hf2, hf3, hf4⟩, hin, hHR, hHX⟩ := id C
  obtain ⟨⟨hy, -⟩, hSt1⟩ := zStk_c.mp hSt
  obtain ⟨⟨hxx, -⟩, hSt2⟩ := zStk_c.mp hSt1
  show W p l e R s m args below meth c H locs (n - n0) (zSZ n - zSZ n0) QW (F0 m pc ls (.int (Int32.ofInt y) :: .int (Int32.ofInt x) :: r.map (zc G)))
  refine lv_ishl hx hb hd ?_
  rw [← z32_of (Int32.ofInt x <<< (Int32.ofInt y &&& 31))]
  exact k p e R s m args below meth c QW C H locs ls hP hS hL (zStk_c.mpr ⟨⟨z32_I _, by simp⟩, hSt2⟩) a1 a2 a3
theorem zs_ishr {l : Launch} {G : zG} {md d : Nat} {h : zHdr} {n0 : Nat} {Q : Int → zH → Prop} {QX : Nat → zH → Prop} {pc : Nat} {L r : List zV} {v : zH} {n : Nat} {x y : Int} (hd : decode (hB h) pc = .ok (.ishr, 1)) (k : zJp l G md d h n0 Q QX (pc + 1) L ((0, zshr x y) :: r) v n) : zJp l G md d h n0 Q QX pc L ((0, y) :: (0, x) :: r) v n := by
  intro p e R s m args below meth c QW C H locs ls hP hS hL hSt a1 a2 a3
  obtain ⟨⟨hx, hb, hml, hown, hts⟩, ⟨hKt, hZt, hB0, hB1⟩, ⟨hf1, hf2, hf3, hf4⟩, hin, hHR, hHX⟩ := id C
  obtain ⟨⟨hy, -⟩, hSt1⟩ := zStk_c.mp hSt
  obtain ⟨⟨hxx, -⟩, hSt2⟩ := zStk_c.mp hSt1
  show W p l e R s m args below meth c H locs (n - n0) (zSZ n - zSZ n0) QW (F0 m pc ls (.int (Int32.ofInt y) :: .int (Int32.ofInt x) :: r.map (zc G)))
  refine lv_ishr hx hb hd ?_
  rw [← z32_of (Int32.ofInt x >>> (Int32.ofInt y &&& 31))]
  exact k p e R s m args below meth c QW C H locs ls hP hS hL (zStk_c.mpr ⟨⟨z32_I _, by simp⟩, hSt2⟩) a1 a2 a3
theorem zs_iushr {l : Launch} {G : zG} {md d : Nat} {h : zHdr} {n0 : Nat} {Q : Int → zH → Prop} {QX : Nat → zH → Prop} {pc : Nat} {L r : List zV} {v : zH} {n : Nat} {x y : Int} (hd : decode (hB h) pc = .ok (.iushr, 1)) (k : zJp l G md d h n0 Q QX (pc + 1) L ((0, zushr x y) :: r) v n) : zJp l G md d h n0 Q QX pc L ((0, y) :: (0, x) :: r) v n := by
  intro p e R s m args below meth c QW C H locs ls hP hS hL hSt a1 a2 a3
  obtain ⟨⟨hx, hb, hml, hown, hts⟩, ⟨hKt, hZt, hB0, hB1⟩, ⟨hf1, hf2, hf3, hf4⟩, hin, hHR, hHX⟩ := id C
  obtain ⟨⟨hy, -⟩, hSt1⟩ := zStk_c.mp hSt
  obtain ⟨⟨hxx, -⟩, hSt2⟩ := zStk_c.mp hSt1
  show W p l e R s m args below meth c H locs (n - n0) (zSZ n - zSZ n0) QW (F0 m pc ls (.int (Int32.ofInt y) :: .int (Int32.ofInt x) :: r.map (zc G)))
  refine lv_iushr (v := Int32.ofInt (zushr x y)) hx hb hd (z32_of _).symm ?_
  exact k p e R s m args below meth c QW C H locs ls hP hS hL (zStk_c.mpr ⟨⟨z32_I _, by simp⟩, hSt2⟩) a1 a2 a3
theorem zlcmp {x y : Int} (hx : zLg x) (hy : zLg y) : lg_cmp (Int64.ofInt x) (Int64.ofInt y) = Int32.ofInt (zcmp x y) := by
  unfold zcmp
  by_cases h1 : x < y
  · have e : Int64.ofInt x < Int64.ofInt y := (z64_lt hx hy).mpr h1
    have e2 : ¬ Int64.ofInt x = Int64.ofInt y := fun q => by have := (z64_inj hx hy).mp q; omega
    have e3 : ¬ Int64.ofInt y < Int64.ofInt x := fun q => by have := (z64_lt hy hx).mp q; omega
    rw [if_pos h1]
    first | (simp [lg_cmp, e, e2, e3]; done) | (unfold lg_cmp; simp [e, e2, e3]; rfl)
  · by_cases h2 : x = y
    · subst h2
      rw [if_neg h1, if_pos rfl]
      have e : ¬ Int64.ofInt x < Int64.ofInt x := fun q => by have := (z64_lt hx hx).mp q; omega
      first | (simp [lg_cmp, e]; done) | (unfold lg_cmp; simp [e]; rfl)
    · have e : ¬ Int64.ofInt x < Int64.ofInt y := fun q => h1 ((z64_lt hx hy).mp q)
      have e2 : ¬ Int64.ofInt x = Int64.ofInt y := fun q => h2 ((z64_inj hx hy).mp q)
      have e3 : Int64.ofInt y < Int64.ofInt x := (z64_lt hy hx).mpr (by omega)
      rw [if_neg h1, if_neg h2]
      first | (simp [lg_cmp, e, e2, e3]; done) | (unfold lg_cmp; simp [e, e2, e3]; rfl)
theorem zs_lcmp {l : Launch} {G : zG} {md d : Nat} {h : zHdr} {n0 : Nat} {Q : Int → zH → Prop} {QX : Nat → zH → Prop} {pc : Nat} {L r : List zV} {v : zH} {n : Nat} {x y : Int} (hd : decode (hB h) pc = .ok (.lcmp, 1)) (k : zJp l G md d h n0 Q QX (pc + 1) L ((0, zcmp x y) :: r) v n) : zJp l G md d h n0 Q QX pc L ((1, y) :: (1, x) :: r) v n := by
  intro p e R s m args below meth c QW C H locs ls hP hS hL hSt a1 a2 a3
  obtain ⟨⟨hx, hb, hml, hown, hts⟩, ⟨hKt, hZt, hB0, hB1⟩, ⟨hf1, hf2, hf3, hf4⟩, hin, hHR, hHX⟩ := id C
  obtain ⟨⟨hy, -⟩, hSt1⟩ := zStk_c.mp hSt
  obtain ⟨⟨hxx, -⟩, hSt2⟩ := zStk_c.mp hSt1
  show W p l e R s m args below meth c H locs (n - n0) (zSZ n - zSZ n0) QW (F0 m pc ls (.long (Int64.ofInt y) :: .long (Int64.ofInt x) :: r.map (zc G)))
  refine W.lcmp hx hb hd ?_
  rw [zlcmp hxx hy]
  exact k p e R s m args below meth c QW C H locs ls hP hS hL (zStk_c.mpr ⟨⟨⟨by unfold zcmp; split <;> (try split) <;> omega, by unfold zcmp; split <;> (try split) <;> omega⟩, by simp⟩, hSt2⟩) a1 a2 a3
theorem zs_ineg {l : Launch} {G : zG} {md d : Nat} {h : zHdr} {n0 : Nat} {Q : Int → zH → Prop} {QX : Nat → zH → Prop} {pc : Nat} {L r : List zV} {v : zH} {n : Nat} {x : Int} (hd : decode (hB h) pc = .ok (.ineg, 1)) (hq0 : zI (-x)) (k : zJp l G md d h n0 Q QX (pc + 1) L ((0, -x) :: r) v n) : zJp l G md d h n0 Q QX pc L ((0, x) :: r) v n := by
  intro p e R s m args below meth c QW C H locs ls hP hS hL hSt a1 a2 a3
  obtain ⟨⟨hx, hb, hml, hown, hts⟩, ⟨hKt, hZt, hB0, hB1⟩, ⟨hf1, hf2, hf3, hf4⟩, hin, hHR, hHX⟩ := id C
  obtain ⟨⟨hxx, -⟩, hSt2⟩ := zStk_c.mp hSt
  show W p l e R s m args below meth c H locs (n - n0) (zSZ n - zSZ n0) QW (F0 m pc ls (.int (Int32.ofInt x) :: r.map (zc G)))
  refine lv_ineg hx hb hd ?_
  rw [← Int32.ofInt_neg]
  exact k p e R s m args below meth c QW C H locs ls hP hS hL (zStk_c.mpr ⟨⟨hq0, by simp⟩, hSt2⟩) a1 a2 a3
theorem zs_i2c {l : Launch} {G : zG} {md d : Nat} {h : zHdr} {n0 : Nat} {Q : Int → zH → Prop} {QX : Nat → zH → Prop} {pc : Nat} {L r : List zV} {v : zH} {n : Nat} {x : Int} (hd : decode (hB h) pc = .ok (.i2c, 1)) (hq0 : 0 ≤ x ∧ x ≤ 65535) (k : zJp l G md d h n0 Q QX (pc + 1) L ((0, x) :: r) v n) : zJp l G md d h n0 Q QX pc L ((0, x) :: r) v n := by
  intro p e R s m args below meth c QW C H locs ls hP hS hL hSt a1 a2 a3
  obtain ⟨⟨hx, hb, hml, hown, hts⟩, ⟨hKt, hZt, hB0, hB1⟩, ⟨hf1, hf2, hf3, hf4⟩, hin, hHR, hHX⟩ := id C
  obtain ⟨⟨hxx, -⟩, hSt2⟩ := zStk_c.mp hSt
  show W p l e R s m args below meth c H locs (n - n0) (zSZ n - zSZ n0) QW (F0 m pc ls (.int (Int32.ofInt x) :: r.map (zc G)))
  refine lv_i2c (v := Int32.ofInt x) hx hb hd (z_i2c hq0.1 hq0.2) ?_
  exact k p e R s m args below meth c QW C H locs ls hP hS hL (zStk_c.mpr ⟨⟨hxx, by simp⟩, hSt2⟩) a1 a2 a3
theorem zs_i2l {l : Launch} {G : zG} {md d : Nat} {h : zHdr} {n0 : Nat} {Q : Int → zH → Prop} {QX : Nat → zH → Prop} {pc : Nat} {L r : List zV} {v : zH} {n : Nat} {x : Int} (hd : decode (hB h) pc = .ok (.i2l, 1)) (k : zJp l G md d h n0 Q QX (pc + 1) L ((1, x) :: r) v n) : zJp l G md d h n0 Q QX pc L ((0, x) :: r) v n := by
  intro p e R s m args below meth c QW C H locs ls hP hS hL hSt a1 a2 a3
  obtain ⟨⟨hx, hb, hml, hown, hts⟩, ⟨hKt, hZt, hB0, hB1⟩, ⟨hf1, hf2, hf3, hf4⟩, hin, hHR, hHX⟩ := id C
  obtain ⟨⟨hxx, -⟩, hSt2⟩ := zStk_c.mp hSt
  show W p l e R s m args below meth c H locs (n - n0) (zSZ n - zSZ n0) QW (F0 m pc ls (.int (Int32.ofInt x) :: r.map (zc G)))
  refine lv_i2l (v := Int64.ofInt x) hx hb hd (z_i2l hxx) ?_
  exact k p e R s m args below meth c QW C H locs ls hP hS hL (zStk_c.mpr ⟨⟨⟨by have := hxx.1; omega, by have := hxx.2; omega⟩, by simp⟩, hSt2⟩) a1 a2 a3
theorem zs_l2i {l : Launch} {G : zG} {md d : Nat} {h : zHdr} {n0 : Nat} {Q : Int → zH → Prop} {QX : Nat → zH → Prop} {pc : Nat} {L r : List zV} {v : zH} {n : Nat} {x : Int} (hd : decode (hB h) pc = .ok (.l2i, 1)) (hq0 : zI x) (k : zJp l G md d h n0 Q QX (pc + 1) L ((0, x) :: r) v n) : zJp l G md d h n0 Q QX pc L ((1, x) :: r) v n := by
  intro p e R s m args below meth c QW C H locs ls hP hS hL hSt a1 a2 a3
  obtain ⟨⟨hx, hb, hml, hown, hts⟩, ⟨hKt, hZt, hB0, hB1⟩, ⟨hf1, hf2, hf3, hf4⟩, hin, hHR, hHX⟩ := id C
  obtain ⟨⟨hxx, -⟩, hSt2⟩ := zStk_c.mp hSt
  show W p l e R s m args below meth c H locs (n - n0) (zSZ n - zSZ n0) QW (F0 m pc ls (.long (Int64.ofInt x) :: r.map (zc G)))
  refine lv_l2i (v := Int32.ofInt x) hx hb hd (z_l2i x) ?_
  exact k p e R s m args below meth c QW C H locs ls hP hS hL (zStk_c.mpr ⟨⟨hq0, by simp⟩, hSt2⟩) a1 a2 a3
theorem zcat1 {G : zG} {t : Nat} {x : Int} (h : t ≠ 1) : (zc G (t, x)).category = 1 := by
  unfold zc
  split
  · rfl
  · rename_i e; exact absurd e h
  · split <;> rfl
  · split <;> rfl
theorem zs_dup {l : Launch} {G : zG} {md d : Nat} {h : zHdr} {n0 : Nat} {Q : Int → zH → Prop} {QX : Nat → zH → Prop} {pc : Nat} {L r : List zV} {v : zH} {n : Nat} {t : Nat} {x : Int} (hd : decode (hB h) pc = .ok (.dup, 1)) (ht : t ≠ 1) (k : zJp l G md d h n0 Q QX (pc + 1) L ((t, x) :: (t, x) :: r) v n) : zJp l G md d h n0 Q QX pc L ((t, x) :: r) v n := by
  intro p e R s m args below meth c QW C H locs ls hP hS hL hSt a1 a2 a3
  obtain ⟨⟨hx, hb, hml, hown, hts⟩, ⟨hKt, hZt, hB0, hB1⟩, ⟨hf1, hf2, hf3, hf4⟩, hin, hHR, hHX⟩ := id C
  show W p l e R s m args below meth c H locs (n - n0) (zSZ n - zSZ n0) QW (F0 m pc ls (zc G (t, x) :: r.map (zc G)))
  refine lv_dup hx hb hd (zcat1 ht) ?_
  exact k p e R s m args below meth c QW C H locs ls hP hS hL (zStk_c.mpr ⟨(zStk_c.mp hSt).1, hSt⟩) a1 a2 a3
theorem zs_dup2 {l : Launch} {G : zG} {md d : Nat} {h : zHdr} {n0 : Nat} {Q : Int → zH → Prop} {QX : Nat → zH → Prop} {pc : Nat} {L r : List zV} {v : zH} {n : Nat} {x y : Int} (hd : decode (hB h) pc = .ok (.dup2, 1)) (k : zJp l G md d h n0 Q QX (pc + 1) L ((0, x) :: (2, y) :: (0, x) :: (2, y) :: r) v n) : zJp l G md d h n0 Q QX pc L ((0, x) :: (2, y) :: r) v n := by
  intro p e R s m args below meth c QW C H locs ls hP hS hL hSt a1 a2 a3
  obtain ⟨⟨hx, hb, hml, hown, hts⟩, ⟨hKt, hZt, hB0, hB1⟩, ⟨hf1, hf2, hf3, hf4⟩, hin, hHR, hHX⟩ := id C
  show W p l e R s m args below meth c H locs (n - n0) (zSZ n - zSZ n0) QW (F0 m pc ls (zc G (0, x) :: zc G (2, y) :: r.map (zc G)))
  refine lv_dup2_11 hx hb hd (zcat1 (by decide)) (zcat1 (by decide)) ?_
  exact k p e R s m args below meth c QW C H locs ls hP hS hL (zStk_c.mpr ⟨(zStk_c.mp hSt).1, zStk_c.mpr ⟨(zStk_c.mp (zStk_c.mp hSt).2).1, hSt⟩⟩) a1 a2 a3
theorem zs_pop {l : Launch} {G : zG} {md d : Nat} {h : zHdr} {n0 : Nat} {Q : Int → zH → Prop} {QX : Nat → zH → Prop} {pc : Nat} {L r : List zV} {v : zH} {n : Nat} {x : Int} (hd : decode (hB h) pc = .ok (.pop, 1)) (k : zJp l G md d h n0 Q QX (pc + 1) L r v n) : zJp l G md d h n0 Q QX pc L ((0, x) :: r) v n := by
  intro p e R s m args below meth c QW C H locs ls hP hS hL hSt a1 a2 a3
  obtain ⟨⟨hx, hb, hml, hown, hts⟩, ⟨hKt, hZt, hB0, hB1⟩, ⟨hf1, hf2, hf3, hf4⟩, hin, hHR, hHX⟩ := id C
  show W p l e R s m args below meth c H locs (n - n0) (zSZ n - zSZ n0) QW (F0 m pc ls (zc G (0, x) :: r.map (zc G)))
  refine lv_pop hx hb hd (zcat1 (by decide)) ?_
  exact k p e R s m args below meth c QW C H locs ls hP hS hL (zStk_c.mp hSt).2 a1 a2 a3
theorem zs_icmp_eq {l : Launch} {G : zG} {md d : Nat} {h : zHdr} {n0 : Nat} {Q : Int → zH → Prop} {QX : Nat → zH → Prop} {pc : Nat} {L r : List zV} {v : zH} {n : Nat} {x y : Int} {off : Int} {tgt : Nat} (hd : decode (hB h) pc = .ok (.if_icmp .eq off, 3)) (ht : (pc : Int) + off = (tgt : Int)) (kt : x = y → zJp l G md d h n0 Q QX tgt L r v n) (kf : ¬ x = y → zJp l G md d h n0 Q QX (pc + 3) L r v n) : zJp l G md d h n0 Q QX pc L ((0, y) :: (0, x) :: r) v n := by
  intro p e R s m args below meth c QW C H locs ls hP hS hL hSt a1 a2 a3
  obtain ⟨⟨hx, hb, hml, hown, hts⟩, ⟨hKt, hZt, hB0, hB1⟩, ⟨hf1, hf2, hf3, hf4⟩, hin, hHR, hHX⟩ := id C
  obtain ⟨⟨hy, -⟩, hSt1⟩ := zStk_c.mp hSt
  obtain ⟨⟨hxx, -⟩, hSt2⟩ := zStk_c.mp hSt1
  show W p l e R s m args below meth c H locs (n - n0) (zSZ n - zSZ n0) QW (F0 m pc ls (.int (Int32.ofInt y) :: .int (Int32.ofInt x) :: r.map (zc G)))
  refine lv_icmp_eq hx hb hd ht (fun hh => ?_) (fun hh => ?_)
  · exact kt ((z32_inj hxx hy).mp hh) p e R s m args below meth c QW C H locs ls hP hS hL hSt2 a1 a2 a3
  · exact kf (fun q => hh ((z32_inj hxx hy).mpr q)) p e R s m args below meth c QW C H locs ls hP hS hL hSt2 a1 a2 a3
theorem zs_icmp_ne {l : Launch} {G : zG} {md d : Nat} {h : zHdr} {n0 : Nat} {Q : Int → zH → Prop} {QX : Nat → zH → Prop} {pc : Nat} {L r : List zV} {v : zH} {n : Nat} {x y : Int} {off : Int} {tgt : Nat} (hd : decode (hB h) pc = .ok (.if_icmp .ne off, 3)) (ht : (pc : Int) + off = (tgt : Int)) (kt : ¬ x = y → zJp l G md d h n0 Q QX tgt L r v n) (kf : x = y → zJp l G md d h n0 Q QX (pc + 3) L r v n) : zJp l G md d h n0 Q QX pc L ((0, y) :: (0, x) :: r) v n := by
  intro p e R s m args below meth c QW C H locs ls hP hS hL hSt a1 a2 a3
  obtain ⟨⟨hx, hb, hml, hown, hts⟩, ⟨hKt, hZt, hB0, hB1⟩, ⟨hf1, hf2, hf3, hf4⟩, hin, hHR, hHX⟩ := id C
  obtain ⟨⟨hy, -⟩, hSt1⟩ := zStk_c.mp hSt
  obtain ⟨⟨hxx, -⟩, hSt2⟩ := zStk_c.mp hSt1
  show W p l e R s m args below meth c H locs (n - n0) (zSZ n - zSZ n0) QW (F0 m pc ls (.int (Int32.ofInt y) :: .int (Int32.ofInt x) :: r.map (zc G)))
  refine lv_icmp_ne hx hb hd ht (fun hh => ?_) (fun hh => ?_)
  · exact kt (fun q => hh ((z32_inj hxx hy).mpr q)) p e R s m args below meth c QW C H locs ls hP hS hL hSt2 a1 a2 a3
  · exact kf (by first | exact (z32_inj hxx hy).mp hh | exact (z32_inj hxx hy).mp (Classical.not_not.mp hh)) p e R s m args below meth c QW C H locs ls hP hS hL hSt2 a1 a2 a3
theorem zs_icmp_lt {l : Launch} {G : zG} {md d : Nat} {h : zHdr} {n0 : Nat} {Q : Int → zH → Prop} {QX : Nat → zH → Prop} {pc : Nat} {L r : List zV} {v : zH} {n : Nat} {x y : Int} {off : Int} {tgt : Nat} (hd : decode (hB h) pc = .ok (.if_icmp .lt off, 3)) (ht : (pc : Int) + off = (tgt : Int)) (kt : x < y → zJp l G md d h n0 Q QX tgt L r v n) (kf : y ≤ x → zJp l G md d h n0 Q QX (pc + 3) L r v n) : zJp l G md d h n0 Q QX pc L ((0, y) :: (0, x) :: r) v n := by
  intro p e R s m args below meth c QW C H locs ls hP hS hL hSt a1 a2 a3
  obtain ⟨⟨hx, hb, hml, hown, hts⟩, ⟨hKt, hZt, hB0, hB1⟩, ⟨hf1, hf2, hf3, hf4⟩, hin, hHR, hHX⟩ := id C
  obtain ⟨⟨hy, -⟩, hSt1⟩ := zStk_c.mp hSt
  obtain ⟨⟨hxx, -⟩, hSt2⟩ := zStk_c.mp hSt1
  show W p l e R s m args below meth c H locs (n - n0) (zSZ n - zSZ n0) QW (F0 m pc ls (.int (Int32.ofInt y) :: .int (Int32.ofInt x) :: r.map (zc G)))
  refine lv_icmp_lt hx hb hd ht (fun hh => ?_) (fun hh => ?_)
  · exact kt ((z32_lt hxx hy).mp hh) p e R s m args below meth c QW C H locs ls hP hS hL hSt2 a1 a2 a3
  · exact kf (Int.not_lt.mp (fun z => hh ((z32_lt hxx hy).mpr z))) p e R s m args below meth c QW C H locs ls hP hS hL hSt2 a1 a2 a3
theorem zs_icmp_ge {l : Launch} {G : zG} {md d : Nat} {h : zHdr} {n0 : Nat} {Q : Int → zH → Prop} {QX : Nat → zH → Prop} {pc : Nat} {L r : List zV} {v : zH} {n : Nat} {x y : Int} {off : Int} {tgt : Nat} (hd : decode (hB h) pc = .ok (.if_icmp .ge off, 3)) (ht : (pc : Int) + off = (tgt : Int)) (kt : y ≤ x → zJp l G md d h n0 Q QX tgt L r v n) (kf : x < y → zJp l G md d h n0 Q QX (pc + 3) L r v n) : zJp l G md d h n0 Q QX pc L ((0, y) :: (0, x) :: r) v n := by
  intro p e R s m args below meth c QW C H locs ls hP hS hL hSt a1 a2 a3
  obtain ⟨⟨hx, hb, hml, hown, hts⟩, ⟨hKt, hZt, hB0, hB1⟩, ⟨hf1, hf2, hf3, hf4⟩, hin, hHR, hHX⟩ := id C
  obtain ⟨⟨hy, -⟩, hSt1⟩ := zStk_c.mp hSt
  obtain ⟨⟨hxx, -⟩, hSt2⟩ := zStk_c.mp hSt1
  show W p l e R s m args below meth c H locs (n - n0) (zSZ n - zSZ n0) QW (F0 m pc ls (.int (Int32.ofInt y) :: .int (Int32.ofInt x) :: r.map (zc G)))
  refine lv_icmp_ge hx hb hd ht (fun hh => ?_) (fun hh => ?_)
  · exact kt ((z32_le hy hxx).mp hh) p e R s m args below meth c QW C H locs ls hP hS hL hSt2 a1 a2 a3
  · exact kf (Int.not_le.mp (fun z => hh ((z32_le hy hxx).mpr z))) p e R s m args below meth c QW C H locs ls hP hS hL hSt2 a1 a2 a3
theorem zs_icmp_gt {l : Launch} {G : zG} {md d : Nat} {h : zHdr} {n0 : Nat} {Q : Int → zH → Prop} {QX : Nat → zH → Prop} {pc : Nat} {L r : List zV} {v : zH} {n : Nat} {x y : Int} {off : Int} {tgt : Nat} (hd : decode (hB h) pc = .ok (.if_icmp .gt off, 3)) (ht : (pc : Int) + off = (tgt : Int)) (kt : y < x → zJp l G md d h n0 Q QX tgt L r v n) (kf : x ≤ y → zJp l G md d h n0 Q QX (pc + 3) L r v n) : zJp l G md d h n0 Q QX pc L ((0, y) :: (0, x) :: r) v n := by
  intro p e R s m args below meth c QW C H locs ls hP hS hL hSt a1 a2 a3
  obtain ⟨⟨hx, hb, hml, hown, hts⟩, ⟨hKt, hZt, hB0, hB1⟩, ⟨hf1, hf2, hf3, hf4⟩, hin, hHR, hHX⟩ := id C
  obtain ⟨⟨hy, -⟩, hSt1⟩ := zStk_c.mp hSt
  obtain ⟨⟨hxx, -⟩, hSt2⟩ := zStk_c.mp hSt1
  show W p l e R s m args below meth c H locs (n - n0) (zSZ n - zSZ n0) QW (F0 m pc ls (.int (Int32.ofInt y) :: .int (Int32.ofInt x) :: r.map (zc G)))
  refine lv_icmp_gt hx hb hd ht (fun hh => ?_) (fun hh => ?_)
  · exact kt ((z32_lt hy hxx).mp hh) p e R s m args below meth c QW C H locs ls hP hS hL hSt2 a1 a2 a3
  · exact kf (Int.not_lt.mp (fun z => hh ((z32_lt hy hxx).mpr z))) p e R s m args below meth c QW C H locs ls hP hS hL hSt2 a1 a2 a3
theorem zs_icmp_le {l : Launch} {G : zG} {md d : Nat} {h : zHdr} {n0 : Nat} {Q : Int → zH → Prop} {QX : Nat → zH → Prop} {pc : Nat} {L r : List zV} {v : zH} {n : Nat} {x y : Int} {off : Int} {tgt : Nat} (hd : decode (hB h) pc = .ok (.if_icmp .le off, 3)) (ht : (pc : Int) + off = (tgt : Int)) (kt : x ≤ y → zJp l G md d h n0 Q QX tgt L r v n) (kf : y < x → zJp l G md d h n0 Q QX (pc + 3) L r v n) : zJp l G md d h n0 Q QX pc L ((0, y) :: (0, x) :: r) v n := by
  intro p e R s m args below meth c QW C H locs ls hP hS hL hSt a1 a2 a3
  obtain ⟨⟨hx, hb, hml, hown, hts⟩, ⟨hKt, hZt, hB0, hB1⟩, ⟨hf1, hf2, hf3, hf4⟩, hin, hHR, hHX⟩ := id C
  obtain ⟨⟨hy, -⟩, hSt1⟩ := zStk_c.mp hSt
  obtain ⟨⟨hxx, -⟩, hSt2⟩ := zStk_c.mp hSt1
  show W p l e R s m args below meth c H locs (n - n0) (zSZ n - zSZ n0) QW (F0 m pc ls (.int (Int32.ofInt y) :: .int (Int32.ofInt x) :: r.map (zc G)))
  refine lv_icmp_le hx hb hd ht (fun hh => ?_) (fun hh => ?_)
  · exact kt ((z32_le hxx hy).mp hh) p e R s m args below meth c QW C H locs ls hP hS hL hSt2 a1 a2 a3
  · exact kf (Int.not_le.mp (fun z => hh ((z32_le hxx hy).mpr z))) p e R s m args below meth c QW C H locs ls hP hS hL hSt2 a1 a2 a3
theorem zs_if_eq {l : Launch} {G : zG} {md d : Nat} {h : zHdr} {n0 : Nat} {Q : Int → zH → Prop} {QX : Nat → zH → Prop} {pc : Nat} {L r : List zV} {v : zH} {n : Nat} {x : Int} {off : Int} {tgt : Nat} (hd : decode (hB h) pc = .ok (.ifCond .eq off, 3)) (ht : (pc : Int) + off = (tgt : Int)) (kt : x = 0 → zJp l G md d h n0 Q QX tgt L r v n) (kf : ¬ x = 0 → zJp l G md d h n0 Q QX (pc + 3) L r v n) : zJp l G md d h n0 Q QX pc L ((0, x) :: r) v n := by
  intro p e R s m args below meth c QW C H locs ls hP hS hL hSt a1 a2 a3
  obtain ⟨⟨hx, hb, hml, hown, hts⟩, ⟨hKt, hZt, hB0, hB1⟩, ⟨hf1, hf2, hf3, hf4⟩, hin, hHR, hHX⟩ := id C
  obtain ⟨⟨hxx, -⟩, hSt2⟩ := zStk_c.mp hSt
  show W p l e R s m args below meth c H locs (n - n0) (zSZ n - zSZ n0) QW (F0 m pc ls (.int (Int32.ofInt x) :: r.map (zc G)))
  refine lv_if_eq hx hb hd ht (fun hh => ?_) (fun hh => ?_)
  · exact kt ((z32_0 hxx).mp hh) p e R s m args below meth c QW C H locs ls hP hS hL hSt2 a1 a2 a3
  · exact kf (fun q => hh ((z32_0 hxx).mpr q)) p e R s m args below meth c QW C H locs ls hP hS hL hSt2 a1 a2 a3
theorem zs_if_ne {l : Launch} {G : zG} {md d : Nat} {h : zHdr} {n0 : Nat} {Q : Int → zH → Prop} {QX : Nat → zH → Prop} {pc : Nat} {L r : List zV} {v : zH} {n : Nat} {x : Int} {off : Int} {tgt : Nat} (hd : decode (hB h) pc = .ok (.ifCond .ne off, 3)) (ht : (pc : Int) + off = (tgt : Int)) (kt : ¬ x = 0 → zJp l G md d h n0 Q QX tgt L r v n) (kf : x = 0 → zJp l G md d h n0 Q QX (pc + 3) L r v n) : zJp l G md d h n0 Q QX pc L ((0, x) :: r) v n := by
  intro p e R s m args below meth c QW C H locs ls hP hS hL hSt a1 a2 a3
  obtain ⟨⟨hx, hb, hml, hown, hts⟩, ⟨hKt, hZt, hB0, hB1⟩, ⟨hf1, hf2, hf3, hf4⟩, hin, hHR, hHX⟩ := id C
  obtain ⟨⟨hxx, -⟩, hSt2⟩ := zStk_c.mp hSt
  show W p l e R s m args below meth c H locs (n - n0) (zSZ n - zSZ n0) QW (F0 m pc ls (.int (Int32.ofInt x) :: r.map (zc G)))
  refine lv_if_ne hx hb hd ht (fun hh => ?_) (fun hh => ?_)
  · exact kt (fun q => hh ((z32_0 hxx).mpr q)) p e R s m args below meth c QW C H locs ls hP hS hL hSt2 a1 a2 a3
  · exact kf (by first | exact (z32_0 hxx).mp hh | exact (z32_0 hxx).mp (Classical.not_not.mp hh)) p e R s m args below meth c QW C H locs ls hP hS hL hSt2 a1 a2 a3
theorem zs_if_lt {l : Launch} {G : zG} {md d : Nat} {h : zHdr} {n0 : Nat} {Q : Int → zH → Prop} {QX : Nat → zH → Prop} {pc : Nat} {L r : List zV} {v : zH} {n : Nat} {x : Int} {off : Int} {tgt : Nat} (hd : decode (hB h) pc = .ok (.ifCond .lt off, 3)) (ht : (pc : Int) + off = (tgt : Int)) (kt : x < 0 → zJp l G md d h n0 Q QX tgt L r v n) (kf : 0 ≤ x → zJp l G md d h n0 Q QX (pc + 3) L r v n) : zJp l G md d h n0 Q QX pc L ((0, x) :: r) v n := by
  intro p e R s m args below meth c QW C H locs ls hP hS hL hSt a1 a2 a3
  obtain ⟨⟨hx, hb, hml, hown, hts⟩, ⟨hKt, hZt, hB0, hB1⟩, ⟨hf1, hf2, hf3, hf4⟩, hin, hHR, hHX⟩ := id C
  obtain ⟨⟨hxx, -⟩, hSt2⟩ := zStk_c.mp hSt
  show W p l e R s m args below meth c H locs (n - n0) (zSZ n - zSZ n0) QW (F0 m pc ls (.int (Int32.ofInt x) :: r.map (zc G)))
  refine lv_if_lt hx hb hd ht (fun hh => ?_) (fun hh => ?_)
  · exact kt ((z32_lt0 hxx).mp hh) p e R s m args below meth c QW C H locs ls hP hS hL hSt2 a1 a2 a3
  · exact kf (Int.not_lt.mp (fun z => hh ((z32_lt0 hxx).mpr z))) p e R s m args below meth c QW C H locs ls hP hS hL hSt2 a1 a2 a3
theorem zs_if_ge {l : Launch} {G : zG} {md d : Nat} {h : zHdr} {n0 : Nat} {Q : Int → zH → Prop} {QX : Nat → zH → Prop} {pc : Nat} {L r : List zV} {v : zH} {n : Nat} {x : Int} {off : Int} {tgt : Nat} (hd : decode (hB h) pc = .ok (.ifCond .ge off, 3)) (ht : (pc : Int) + off = (tgt : Int)) (kt : 0 ≤ x → zJp l G md d h n0 Q QX tgt L r v n) (kf : x < 0 → zJp l G md d h n0 Q QX (pc + 3) L r v n) : zJp l G md d h n0 Q QX pc L ((0, x) :: r) v n := by
  intro p e R s m args below meth c QW C H locs ls hP hS hL hSt a1 a2 a3
  obtain ⟨⟨hx, hb, hml, hown, hts⟩, ⟨hKt, hZt, hB0, hB1⟩, ⟨hf1, hf2, hf3, hf4⟩, hin, hHR, hHX⟩ := id C
  obtain ⟨⟨hxx, -⟩, hSt2⟩ := zStk_c.mp hSt
  show W p l e R s m args below meth c H locs (n - n0) (zSZ n - zSZ n0) QW (F0 m pc ls (.int (Int32.ofInt x) :: r.map (zc G)))
  refine lv_if_ge hx hb hd ht (fun hh => ?_) (fun hh => ?_)
  · exact kt ((z32_ge0 hxx).mp hh) p e R s m args below meth c QW C H locs ls hP hS hL hSt2 a1 a2 a3
  · exact kf (Int.not_le.mp (fun z => hh ((z32_ge0 hxx).mpr z))) p e R s m args below meth c QW C H locs ls hP hS hL hSt2 a1 a2 a3
theorem zs_if_gt {l : Launch} {G : zG} {md d : Nat} {h : zHdr} {n0 : Nat} {Q : Int → zH → Prop} {QX : Nat → zH → Prop} {pc : Nat} {L r : List zV} {v : zH} {n : Nat} {x : Int} {off : Int} {tgt : Nat} (hd : decode (hB h) pc = .ok (.ifCond .gt off, 3)) (ht : (pc : Int) + off = (tgt : Int)) (kt : 0 < x → zJp l G md d h n0 Q QX tgt L r v n) (kf : x ≤ 0 → zJp l G md d h n0 Q QX (pc + 3) L r v n) : zJp l G md d h n0 Q QX pc L ((0, x) :: r) v n := by
  intro p e R s m args below meth c QW C H locs ls hP hS hL hSt a1 a2 a3
  obtain ⟨⟨hx, hb, hml, hown, hts⟩, ⟨hKt, hZt, hB0, hB1⟩, ⟨hf1, hf2, hf3, hf4⟩, hin, hHR, hHX⟩ := id C
  obtain ⟨⟨hxx, -⟩, hSt2⟩ := zStk_c.mp hSt
  show W p l e R s m args below meth c H locs (n - n0) (zSZ n - zSZ n0) QW (F0 m pc ls (.int (Int32.ofInt x) :: r.map (zc G)))
  refine lv_if_gt hx hb hd ht (fun hh => ?_) (fun hh => ?_)
  · exact kt ((z32_gt0 hxx).mp hh) p e R s m args below meth c QW C H locs ls hP hS hL hSt2 a1 a2 a3
  · exact kf (Int.not_lt.mp (fun z => hh ((z32_gt0 hxx).mpr z))) p e R s m args below meth c QW C H locs ls hP hS hL hSt2 a1 a2 a3
theorem zs_if_le {l : Launch} {G : zG} {md d : Nat} {h : zHdr} {n0 : Nat} {Q : Int → zH → Prop} {QX : Nat → zH → Prop} {pc : Nat} {L r : List zV} {v : zH} {n : Nat} {x : Int} {off : Int} {tgt : Nat} (hd : decode (hB h) pc = .ok (.ifCond .le off, 3)) (ht : (pc : Int) + off = (tgt : Int)) (kt : x ≤ 0 → zJp l G md d h n0 Q QX tgt L r v n) (kf : 0 < x → zJp l G md d h n0 Q QX (pc + 3) L r v n) : zJp l G md d h n0 Q QX pc L ((0, x) :: r) v n := by
  intro p e R s m args below meth c QW C H locs ls hP hS hL hSt a1 a2 a3
  obtain ⟨⟨hx, hb, hml, hown, hts⟩, ⟨hKt, hZt, hB0, hB1⟩, ⟨hf1, hf2, hf3, hf4⟩, hin, hHR, hHX⟩ := id C
  obtain ⟨⟨hxx, -⟩, hSt2⟩ := zStk_c.mp hSt
  show W p l e R s m args below meth c H locs (n - n0) (zSZ n - zSZ n0) QW (F0 m pc ls (.int (Int32.ofInt x) :: r.map (zc G)))
  refine lv_if_le hx hb hd ht (fun hh => ?_) (fun hh => ?_)
  · exact kt ((z32_le0 hxx).mp hh) p e R s m args below meth c QW C H locs ls hP hS hL hSt2 a1 a2 a3
  · exact kf (Int.not_le.mp (fun z => hh ((z32_le0 hxx).mpr z))) p e R s m args below meth c QW C H locs ls hP hS hL hSt2 a1 a2 a3
theorem zs_goto {l : Launch} {G : zG} {md d : Nat} {h : zHdr} {n0 : Nat} {Q : Int → zH → Prop} {QX : Nat → zH → Prop} {pc : Nat} {L st : List zV} {v : zH} {n : Nat} {off : Int} {tgt : Nat} (hd : decode (hB h) pc = .ok (.goto off, 3)) (ht : (pc : Int) + off = (tgt : Int)) (k : zJp l G md d h n0 Q QX tgt L st v n) : zJp l G md d h n0 Q QX pc L st v n := by
  intro p e R s m args below meth c QW C H locs ls hP hS hL hSt a1 a2 a3
  obtain ⟨⟨hx, hb, hml, hown, hts⟩, ⟨hKt, hZt, hB0, hB1⟩, ⟨hf1, hf2, hf3, hf4⟩, hin, hHR, hHX⟩ := id C
  exact lv_goto hx hb hd ht (k p e R s m args below meth c QW C H locs ls hP hS hL hSt a1 a2 a3)
