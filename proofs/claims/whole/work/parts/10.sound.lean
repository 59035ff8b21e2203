/-! the walk is sound: what zx comes to is enough for zJ -/
theorem z2_i {st : List zV} {k : Int → Int → List zV → Prop} (h : z2 st k) : ∃ x y r, st = (0, y) :: (0, x) :: r ∧ k x y r := by
  unfold z2 at h
  split at h
  · exact ⟨_, _, _, rfl, h⟩
  · exact h.elim
theorem z2l_i {st : List zV} {k : Int → Int → List zV → Prop} (h : z2l st k) : ∃ x y r, st = (1, y) :: (1, x) :: r ∧ k x y r := by
  unfold z2l at h
  split at h
  · exact ⟨_, _, _, rfl, h⟩
  · exact h.elim
theorem z1_i {st : List zV} {k : Int → List zV → Prop} (h : z1 st k) : ∃ x r, st = (0, x) :: r ∧ k x r := by
  unfold z1 at h
  split at h
  · exact ⟨_, _, rfl, h⟩
  · exact h.elim
theorem z1l_i {st : List zV} {k : Int → List zV → Prop} (h : z1l st k) : ∃ x r, st = (1, x) :: r ∧ k x r := by
  unfold z1l at h
  split at h
  · exact ⟨_, _, rfl, h⟩
  · exact h.elim
theorem z1r_i {st : List zV} {k : Int → List zV → Prop} (h : z1r st k) : ∃ x r, st = (2, x) :: r ∧ k x r := by
  unfold z1r at h
  split at h
  · exact ⟨_, _, rfl, h⟩
  · exact h.elim
theorem zix_i {st : List zV} {k : Int → Int → List zV → Prop} (h : zix st k) : ∃ a j r, st = (0, j) :: (2, a) :: r ∧ k a j r := by
  unfold zix at h
  split at h
  · exact ⟨_, _, _, rfl, h⟩
  · exact h.elim
theorem zixv_i {t : Nat} {st : List zV} {k : Int → Int → Int → List zV → Prop} (h : zixv t st k) : ∃ a j x r, st = (t, x) :: (0, j) :: (2, a) :: r ∧ k a j x r := by
  unfold zixv at h
  split at h
  · split at h
    · rename_i e
      have := Nat.eq_of_beq_eq_true e
      subst this
      exact ⟨_, _, _, _, rfl, h⟩
    · exact h.elim
  · exact h.elim
theorem zpf_i {st : List zV} {k : Nat → Int → Int → List zV → Prop} (h : zpf st k) : ∃ t x a r, st = (t, x) :: (2, a) :: r ∧ k t x a r := by
  unfold zpf at h
  split at h
  · exact ⟨_, _, _, _, rfl, h⟩
  · exact h.elim
theorem zget_i {L : List zV} {i t : Nat} {k : Int → Prop} (h : zget L i t k) : ∃ x, L[i]? = some (t, x) ∧ k x := by
  unfold zget at h
  split at h
  · rename_i e
    split at h
    · rename_i e2
      have := Nat.eq_of_beq_eq_true e2
      subst this
      exact ⟨_, e, h⟩
    · exact h.elim
  · exact h.elim
theorem zput_i {L : List zV} {i : Nat} {q : zV} {k : List zV → Prop} (h : zput L i q k) : zpl L i = false ∧ i < L.length ∧ k (L.set i q) := by
  unfold zput at h
  split at h
  · exact h.elim
  · rename_i e
    split at h
    · rename_i e2
      exact ⟨e, by simpa using e2, h⟩
    · exact h.elim
theorem zput2_i {L : List zV} {i : Nat} {q : zV} {k : List zV → Prop} (h : zput2 L i q k) : zpl L i = false ∧ i + 1 < L.length ∧ k ((L.set i q).set (i + 1) (3, 0)) := by
  unfold zput2 at h
  split at h
  · exact h.elim
  · rename_i e
    split at h
    · rename_i e2
      exact ⟨e, by simpa using e2, h⟩
    · exact h.elim
theorem zdp_i {d : Nat} {k : Nat → Prop} (h : zdp d k) : ∃ d', d = d' + 1 ∧ k d' := by
  unfold zdp at h
  split at h
  · exact h.elim
  · exact ⟨_, rfl, h⟩
theorem zrecv_i {st : List zV} {k : Int → Prop} (h : zrecv st k) : ∃ o r, st = (2, o) :: r ∧ k o := by
  unfold zrecv at h
  split at h
  · exact ⟨_, _, rfl, h⟩
  · exact h.elim
theorem zcall_i {l : Launch} {G : zG} {md d : Nat} {h0 h : zHdr} {n0 na : Nat} {st : List zV} {v : zH} {n : Nat} {k : List zV → zH → Nat → Prop} (hm : zmokP h) (hb0 : hMc h = 0 → n ≤ n0 + hMc h0 ∧ zSZ n ≤ zSZ n0 + hMs h0) (hh : zcall1 l G md d h0 n0 h na st v n k) :
    ∃ d', d = d' + 1 ∧ zbudget h0 n0 n (hMc h) (hMs h) ∧ zcats (st.drop na) ≤ 8 ∧ (st.take na).length = na ∧ zC l G md d' h (st.take na).reverse v n (fun r v' => k (zpsh (hT h) r (st.drop na)) v' (n + hMc h)) := by
  have key : zbudget h0 n0 n (hMc h) (hMs h) ∧ zcall l G md d h na st v n k := by
    unfold zcall1 at hh
    split at hh
    · rename_i e
      obtain ⟨b1, b2⟩ := hb0 e
      have e2 := hm.2.2.2.1 e
      refine ⟨?_, hh⟩
      unfold zbudget
      rw [e, e2]
      exact ⟨b1, b2, rfl⟩
    · exact hh
  obtain ⟨hbud, hh⟩ := key
  unfold zcall at hh
  split at hh
  · exact hh.elim
  · rename_i e1
    split at hh
    · exact hh.elim
    · rename_i e2
      obtain ⟨d', e3, h4⟩ := zdp_i hh
      exact ⟨d', e3, hbud, Nat.le_of_ble_eq_true e1, Nat.eq_of_beq_eq_true e2, h4⟩
theorem zc_w {lo : List zV} (na : Nat) : lo.take na ++ lo.drop na = lo := List.take_append_drop na lo
theorem zmsk_ok {G : zG} {n nL : Nat} {ls : Array Slot} {L : List zV} (m : List Bool) (h : zLs G n ls nL L) : zLs G n ls nL (zmsk m L) := by
  refine ⟨h.1, h.2.1, fun i t x hi ht => h.2.2 i t x ?_ ht⟩
  have key : ∀ (m : List Bool) (L : List zV) (i : Nat), (zmsk m L)[i]? = some (t, x) → L[i]? = some (t, x) := by
    intro m
    induction m with
    | nil =>
      intro L i hi
      unfold zmsk at hi
      rw [List.getElem?_map] at hi
      cases hL : L[i]? with
      | none => rw [hL] at hi; cases hi
      | some q => rw [hL] at hi; cases hi; exact absurd rfl ht
    | cons b m ih =>
      intro L i hi
      cases L with
      | nil => cases b <;> simp [zmsk] at hi
      | cons q L =>
        cases b with
        | true =>
          unfold zmsk at hi
          cases i with
          | zero => exact hi
          | succ i => rw [List.getElem?_cons_succ] at hi ⊢; exact ih L i hi
        | false =>
          unfold zmsk at hi
          cases i with
          | zero => cases hi; exact absurd rfl ht
          | succ i => rw [List.getElem?_cons_succ] at hi ⊢; exact ih L i hi
  exact key m L i hi
theorem zJ_msk {l : Launch} {G : zG} {md d : Nat} {h : zHdr} {n0 : Nat} {Q : Int → zH → Prop} {QX : Nat → zH → Prop} {pc : Nat} {L st : List zV} {v : zH} {n : Nat} (m : List Bool) (k : zJp l G md d h n0 Q QX pc (zmsk m L) st v n) : zJp l G md d h n0 Q QX pc L st v n := by
  intro p e R s m' args below meth c QW C H locs ls hP hS hLs hSt a1 a2 a3
  exact k p e R s m' args below meth c QW C H locs ls hP hS (zmsk_ok m hLs) hSt a1 a2 a3
theorem ztg_ok {code : List zIns} {t pc : Nat} {off : Int} (h : ztg code t pc off = true) : (pc : Int) + off = (zpc code t : Int) := by
  unfold ztg at h
  unfold zpc
  cases he : code[t]? with
  | none => rw [he] at h; cases h
  | some e => rw [he] at h; exact of_decide_eq_true h
theorem zbudget_b {l : Launch} {G : zG} {md d : Nat} {h : zHdr} {n0 : Nat} {Q : Int → zH → Prop} {QX : Nat → zH → Prop} {pc : Nat} {L st : List zV} {v : zH} {n : Nat} (k : n0 ≤ n → n ≤ n0 + hMc h → zSZ n ≤ zSZ n0 + hMs h → zJp l G md d h n0 Q QX pc L st v n) : zJp l G md d h n0 Q QX pc L st v n := by
  intro p e R s m' args below meth c QW C H locs ls hP hS hLs hSt a1 a2 a3
  exact k a1 a2 a3 p e R s m' args below meth c QW C H locs ls hP hS hLs hSt a1 a2 a3
theorem zstk_b {l : Launch} {G : zG} {md d : Nat} {h : zHdr} {n0 : Nat} {Q : Int → zH → Prop} {QX : Nat → zH → Prop} {pc : Nat} {L st : List zV} {v : zH} {n : Nat} (k : zStk n st → zJp l G md d h n0 Q QX pc L st v n) : zJp l G md d h n0 Q QX pc L st v n := by
  intro p e R s m' args below meth c QW C H locs ls hP hS hLs hSt a1 a2 a3
  exact k hSt p e R s m' args below meth c QW C H locs ls hP hS hLs hSt a1 a2 a3
theorem zbeq9 {k : Nat} (h : ¬ k = 9) : Nat.beq k 9 = false := by
  cases hb : Nat.beq k 9
  · rfl
  · exact absurd (Nat.eq_of_beq_eq_true hb) h
theorem z_and {a b : Bool} (h : (a && b) = true) : a = true ∧ b = true := by simpa using h
theorem zsw_mono {x : Int} {f g : Nat → Prop} {dd : Nat} (hfg : ∀ t, f t → g t) : ∀ {ts : List Nat} {lo : Int}, zsw x f dd lo ts → zsw x g dd lo ts
  | [], _, h => fun q => hfg _ (h q)
  | _ :: _, _, h => ⟨fun q => hfg _ (h.1 q), zsw_mono hfg h.2⟩
theorem zlk_mono {x : Int} {f g : Nat → Prop} {dd : Nat} (hfg : ∀ t, f t → g t) : ∀ {ps : List (Int × Int)} {ts : List Nat}, zlk x f dd ps ts → zlk x g dd ps ts
  | [], [], h => hfg _ h
  | [], _ :: _, h => hfg _ h
  | _ :: _, [], h => hfg _ h
  | _ :: _, _ :: _, h => ⟨fun q => hfg _ (h.1 q), fun q => zlk_mono hfg (h.2 q)⟩
theorem zfv_n {md : Nat} {v : zH} {i : Int} {k : Nat} (h : ¬ (md = 1 ∧ (zFn (zCL i) k).1 ≠ 0)) : zfv md v i k = v i k := by
  unfold zfv
  rw [if_neg h]
theorem zfv_f {v : zH} {i : Int} {k : Nat} {x : Int} (h : (zFn (zCL i) k).1 ≠ 0) (hx : zFK i k = x) : zfv 1 v i k = x := by
  unfold zfv
  rw [if_pos ⟨rfl, h⟩, hx]
theorem zFT_all : ∀ row ∈ zFTt, ∀ x ∈ row, x = 0 ∨ x = 2 := by decide +kernel
theorem zFT_02 (c k : Nat) : zFT c k = 0 ∨ zFT c k = 2 := by
  unfold zFT
  rw [List.getD_eq_getElem?_getD (l := zFTt), List.getD_eq_getElem?_getD]
  cases h1 : zFTt[c]? with
  | none => simp
  | some row =>
    simp only [Option.getD_some]
    cases h2 : row[k]? with
    | none => simp
    | some x => exact zFT_all row (List.mem_of_getElem? h1) x (List.mem_of_getElem? h2)
theorem zFn_all : ∀ row ∈ zFnt, ∀ x ∈ row, -10 ≤ x.2 := by decide +kernel
theorem zFn_off (c k : Nat) : (zFn c k).1 = 1 → -10 ≤ (zFn c k).2 := by
  intro _
  unfold zFn
  rw [List.getD_eq_getElem?_getD (l := zFnt), List.getD_eq_getElem?_getD]
  cases h1 : zFnt[c]? with
  | none => simp
  | some row =>
    simp only [Option.getD_some]
    cases h2 : row[k]? with
    | none => simp
    | some x => exact zFn_all row (List.mem_of_getElem? h1) x (List.mem_of_getElem? h2)
theorem zCL_lt24 {a : Int} {c : Nat} (h : zCL a = c) (hc : c < 12) : 0 ≤ a := zCL_le h (by omega)
theorem zKT_ne (k : Nat) (o : Int) : ¬ zKT k o = -1000 := by
  have hd : zKd o = 0 ∨ zKd o = 1 ∨ zKd o = 2 := by
    unfold zKd
    split
    · exact Or.inl rfl
    · split
      · exact Or.inr (Or.inl rfl)
      · exact Or.inr (Or.inr rfl)
  unfold zKT
  split
  · split
    · decide
    · split <;> decide
  · omega
  · omega
  · omega
  · omega
theorem zfin_all : ∀ ci, ci < 12 → ∀ k, k < (zcr ci).2.2 → zfin ci k = false → (zFn ci k).1 = 0 := by decide +kernel
theorem zfin_n {md ci k : Nat} (h12 : ci < 12) (hk : k < (zcr ci).2.2) (h : zfin ci k = false) : ¬ (md = 1 ∧ (zFn ci k).1 ≠ 0) := fun q => q.2 (zfin_all ci h12 k hk h)
theorem znew_i {h : zHdr} {md n0 n c : Nat} {k : Prop} (hh : znew h md n0 n c k) : md = 0 ∧ zCL n = c ∧ n + 1 ≤ n0 + hMc h ∧ zSZ (n + 1) ≤ zSZ n0 + hMs h ∧ k := by
  unfold znew at hh
  split at hh
  · exact ⟨rfl, hh⟩
  · exact hh.elim
/-- of zinv's rows, each kind's -/
theorem zinv_m {own : String} {idx : Nat} {R : zRs} (h : zinv own idx R = true) (hk : rA R ≤ 4) : zmokP (rH R) := by
  have h1 := (z_and h).1
  rw [Bool.or_eq_true] at h1
  rcases h1 with h1 | h1
  · have : 4 < rA R := by simpa using h1
    omega
  · exact zmok_ok h1
theorem zinv_0 {own : String} {idx : Nat} {R : zRs} (h : zinv own idx R = true) (hk : rA R = 0) : ∃ i5, (Jvm.Cond.methodLink own idx (hY (rH R)) ∈ zws ∧ Jvm.Cond.instanceMethod (hY (rH R)) ∈ zws ∧ Jvm.Cond.selects (zrcn (rB R)) (hY (rH R)) (hY (rH R)) ∈ zws ∧ Jvm.Cond.initialized (zrcn (rB R)) ∈ zws) ∧ zcode i5 (rH R) = true ∧ (hY (rH R)).cls = zrcn (rB R) ∧ (rB R < 12 ∨ rB R = 26) := by
  have h2 := (z_and h).2
  rw [hk] at h2
  split at h2
  all_goals first | (rename_i e _; cases e; done) | (cases h2; done) | (exfalso; omega) | skip
  · simp only [Bool.and_eq_true, decide_eq_true_eq, Bool.or_eq_true] at h2
    obtain ⟨⟨⟨⟨⟨⟨q1, q2⟩, q3⟩, q4⟩, q5⟩, q6⟩, q7⟩ := h2
    exact ⟨_, ⟨zwd_ok q1, zwd_ok q2, zwd_ok q3, zwd_ok q4⟩, q5, q6, q7⟩
theorem zinv_1 {own : String} {idx : Nat} {R : zRs} (h : zinv own idx R = true) (hk : rA R = 1) : ∃ i6 x, (Jvm.Cond.methodLink own idx x ∈ zws ∧ Jvm.Cond.sameMethod x.cls (hY (rH R)).cls x.name x.desc ∈ zws ∧ Jvm.Cond.selects (zrcn (rB R)) x (hY (rH R)) ∈ zws ∧ Jvm.Cond.instanceMethod (hY (rH R)) ∈ zws ∧ Jvm.Cond.initialized (hY (rH R)).cls ∈ zws) ∧ zcode i6 (rH R) = true ∧ hY (rH R) = ⟨(hY (rH R)).cls, x.name, x.desc⟩ ∧ (parseMethodDescriptor x.desc).map (fun d => d.parameters.length) = some (hN (rH R)) ∧ rB R < 12 := by
  have h2 := (z_and h).2
  rw [hk] at h2
  split at h2
  all_goals first | (rename_i e _; cases e; done) | (cases h2; done) | (exfalso; omega) | skip
  · simp only [Bool.and_eq_true, decide_eq_true_eq] at h2
    obtain ⟨⟨⟨⟨q1, q4⟩, q5⟩, q6⟩, q7⟩ := h2
    split at q1
    · rename_i o j x e
      simp only [Bool.and_eq_true, decide_eq_true_eq] at q1
      obtain ⟨⟨⟨⟨⟨⟨rfl, rfl⟩, g3⟩, g4⟩, g5⟩, g6⟩, g7⟩ := q1
      exact ⟨_, x, ⟨List.mem_filter.mpr ⟨zat_mem e, g3⟩, zwd_ok g4, zwd_ok g5, zwd_ok q4, zwd_ok q5⟩, q6, g6, g7, q7⟩
    · cases q1
theorem zinv_2 {own : String} {idx : Nat} {R : zRs} (h : zinv own idx R = true) (hk : rA R = 2) : ∃ i4, (Jvm.Cond.methodLink own idx (hY (rH R)) ∈ zws ∧ Jvm.Cond.static (hY (rH R)) ∈ zws ∧ Jvm.Cond.initialized (hY (rH R)).cls ∈ zws) ∧ zcode i4 (rH R) = true := by
  have h2 := (z_and h).2
  rw [hk] at h2
  split at h2
  all_goals first | (rename_i e _; cases e; done) | (cases h2; done) | (exfalso; omega) | skip
  · simp only [Bool.and_eq_true] at h2
    obtain ⟨⟨⟨q1, q2⟩, q3⟩, q4⟩ := h2
    exact ⟨_, ⟨zwd_ok q1, zwd_ok q2, zwd_ok q3⟩, q4⟩
theorem zinv_3 {own : String} {idx : Nat} {R : zRs} (h : zinv own idx R = true) (hk : rA R = 3) : ∃ i4, (Jvm.Cond.methodLink own idx (hY (rH R)) ∈ zws ∧ Jvm.Cond.initialized (hY (rH R)).cls ∈ zws ∧ Jvm.Cond.instanceMethod (hY (rH R)) ∈ zws) ∧ zcode i4 (rH R) = true ∧ (hY (rH R)).name = "<init>" ∧ hR (rH R) = none := by
  have h2 := (z_and h).2
  rw [hk] at h2
  split at h2
  all_goals first | (rename_i e _; cases e; done) | (cases h2; done) | (exfalso; omega) | skip
  · simp only [Bool.and_eq_true, decide_eq_true_eq] at h2
    obtain ⟨⟨⟨⟨⟨q1, q2⟩, q3⟩, q4⟩, q5⟩, q6⟩ := h2
    exact ⟨_, ⟨zwd_ok q1, zwd_ok q2, zwd_ok q3⟩, q4, q5, q6⟩
theorem zinv_4 {own : String} {idx : Nat} {R : zRs} (h : zinv own idx R = true) (hk : rA R = 4) : ∃ i4, ((own, idx, hY (rH R)) ∈ zNst ∧ Jvm.Cond.initialized (hY (rH R)).cls ∈ zws ∧ Jvm.Cond.instanceMethod (hY (rH R)) ∈ zws) ∧ zcode i4 (rH R) = true ∧ (hY (rH R)).name = "<init>" ∧ hR (rH R) = none := by
  have h2 := (z_and h).2
  rw [hk] at h2
  split at h2
  all_goals first | (rename_i e _; cases e; done) | (cases h2; done) | (exfalso; omega) | skip
  · simp only [Bool.and_eq_true, decide_eq_true_eq] at h2
    obtain ⟨⟨⟨⟨⟨q1, q2⟩, q3⟩, q4⟩, q5⟩, q6⟩ := h2
    exact ⟨_, ⟨q1, zwd_ok q2, zwd_ok q3⟩, q4, q5, q6⟩
theorem zinv_5 {own : String} {idx : Nat} {R : zRs} (h : zinv own idx R = true) (hk : rA R = 5) : Jvm.Cond.methodLink own idx Lib.objectInit ∈ zws ∧ Jvm.Cond.instanceMethod Lib.objectInit ∈ zws ∧ Jvm.Cond.code Lib.objectInit ⟨#[0xb1]⟩ 1 none ∈ zws := by
  have h2 := (z_and h).2
  rw [hk] at h2
  split at h2
  all_goals first | (rename_i e _; cases e; done) | (cases h2; done) | (exfalso; omega) | skip
  · simp only [Bool.and_eq_true] at h2
    obtain ⟨⟨q1, q2⟩, q3⟩ := h2
    exact ⟨zwd_ok q1, zwd_ok q2, zwd_ok q3⟩
theorem zinv_7 {own : String} {idx : Nat} {R : zRs} (h : zinv own idx R = true) (hk : rA R = 7) : Jvm.Cond.methodLink own idx arraycopyName ∈ zws ∧ Jvm.Cond.native arraycopyName ∈ zws ∧ Jvm.Cond.static arraycopyName ∈ zws ∧ Jvm.Cond.initialized "java/lang/System" ∈ zws := by
  have h2 := (z_and h).2
  rw [hk] at h2
  split at h2
  all_goals first | (rename_i e _; cases e; done) | (cases h2; done) | (exfalso; omega) | skip
  · simp only [Bool.and_eq_true] at h2
    obtain ⟨⟨⟨q1, q2⟩, q3⟩, q4⟩ := h2
    exact ⟨zwd_ok q1, zwd_ok q2, zwd_ok q3, zwd_ok q4⟩
theorem zinv_10 {own : String} {idx : Nat} {R : zRs} (h : zinv own idx R = true) (hk : rA R = 10) : Jvm.Cond.methodLink own idx Lib.Math.max.name ∈ zws ∧ Jvm.Cond.static Lib.Math.max.name ∈ zws ∧ Jvm.Cond.initialized "java/lang/Math" ∈ zws ∧ Jvm.Cond.code Lib.Math.max.name Lib.Math.max.code 2 (some .int) ∈ zws := by
  have h2 := (z_and h).2
  rw [hk] at h2
  split at h2
  all_goals first | (rename_i e _; cases e; done) | (cases h2; done) | (exfalso; omega) | skip
  · simp only [Bool.and_eq_true] at h2
    obtain ⟨⟨⟨q1, q2⟩, q3⟩, q4⟩ := h2
    exact ⟨zwd_ok q1, zwd_ok q2, zwd_ok q3, zwd_ok q4⟩
theorem zinv_11 {own : String} {idx : Nat} {R : zRs} (h : zinv own idx R = true) (hk : rA R = 11) : Jvm.Cond.methodLink own idx Lib.Math.min.name ∈ zws ∧ Jvm.Cond.static Lib.Math.min.name ∈ zws ∧ Jvm.Cond.initialized "java/lang/Math" ∈ zws ∧ Jvm.Cond.code Lib.Math.min.name Lib.Math.min.code 2 (some .int) ∈ zws := by
  have h2 := (z_and h).2
  rw [hk] at h2
  split at h2
  all_goals first | (rename_i e _; cases e; done) | (cases h2; done) | (exfalso; omega) | skip
  · simp only [Bool.and_eq_true] at h2
    obtain ⟨⟨⟨q1, q2⟩, q3⟩, q4⟩ := h2
    exact ⟨zwd_ok q1, zwd_ok q2, zwd_ok q3, zwd_ok q4⟩
theorem zinv_12 {own : String} {idx : Nat} {R : zRs} (h : zinv own idx R = true) (hk : rA R = 12) : Jvm.Cond.methodLink own idx Lib.Math.abs.name ∈ zws ∧ Jvm.Cond.static Lib.Math.abs.name ∈ zws ∧ Jvm.Cond.initialized "java/lang/Math" ∈ zws ∧ Jvm.Cond.code Lib.Math.abs.name Lib.Math.abs.code 1 (some .int) ∈ zws := by
  have h2 := (z_and h).2
  rw [hk] at h2
  split at h2
  all_goals first | (rename_i e _; cases e; done) | (cases h2; done) | (exfalso; omega) | skip
  · simp only [Bool.and_eq_true] at h2
    obtain ⟨⟨⟨q1, q2⟩, q3⟩, q4⟩ := h2
    exact ⟨zwd_ok q1, zwd_ok q2, zwd_ok q3, zwd_ok q4⟩
theorem zinv_13 {own : String} {idx : Nat} {R : zRs} (h : zinv own idx R = true) (hk : rA R = 13) : Jvm.Cond.methodLink own idx Lib.MathLoose.max_long.x ∈ zws ∧ Jvm.Cond.static Lib.MathLoose.max_long.x ∈ zws ∧ Jvm.Cond.initialized "java/lang/Math" ∈ zws ∧ Jvm.Cond.code Lib.MathLoose.max_long.x Lib.MathLoose.max_long.code 4 (some .long) ∈ zws := by
  have h2 := (z_and h).2
  rw [hk] at h2
  split at h2
  all_goals first | (rename_i e _; cases e; done) | (cases h2; done) | (exfalso; omega) | skip
  · simp only [Bool.and_eq_true] at h2
    obtain ⟨⟨⟨q1, q2⟩, q3⟩, q4⟩ := h2
    exact ⟨zwd_ok q1, zwd_ok q2, zwd_ok q3, zwd_ok q4⟩
theorem zinv_14 {own : String} {idx : Nat} {R : zRs} (h : zinv own idx R = true) (hk : rA R = 14) : Jvm.Cond.methodLink own idx Lib.MathLoose.min_long.x ∈ zws ∧ Jvm.Cond.static Lib.MathLoose.min_long.x ∈ zws ∧ Jvm.Cond.initialized "java/lang/Math" ∈ zws ∧ Jvm.Cond.code Lib.MathLoose.min_long.x Lib.MathLoose.min_long.code 4 (some .long) ∈ zws := by
  have h2 := (z_and h).2
  rw [hk] at h2
  split at h2
  all_goals first | (rename_i e _; cases e; done) | (cases h2; done) | (exfalso; omega) | skip
  · simp only [Bool.and_eq_true] at h2
    obtain ⟨⟨⟨q1, q2⟩, q3⟩, q4⟩ := h2
    exact ⟨zwd_ok q1, zwd_ok q2, zwd_ok q3, zwd_ok q4⟩
theorem zprim_i {d : Nat} {r : List zV} {k : Prop} {G : zG} (h : zprim d r k) : 1 ≤ d ∧ ((r.map (zc G)).map fun v => v.category).sum ≤ 8 ∧ k := by
  obtain ⟨d', rfl, h2⟩ := zdp_i h
  split at h2
  · rename_i e
    exact ⟨by omega, Nat.le_trans (zcats_ok _) (Nat.le_of_ble_eq_true e), h2⟩
  · exact h2.elim
theorem zst_split {st : List zV} {na : Nat} (h : (st.take na).length = na) : ((st.take na).reverse).reverse ++ st.drop na = st := by rw [List.reverse_reverse]; exact zc_w na
theorem zst_split1 {st : List zV} {k : Nat} {o : Int} {r : List zV} (h : st.drop k = (2, o) :: r) (hl : (st.take (k + 1)).length = k + 1) : (st.take (k + 1)).reverse = (2, o) :: (st.take k).reverse ∧ st = (((st.take k).reverse).reverse ++ (2, o) :: st.drop (k + 1)) ∧ ((st.take k).reverse).length = k := by
  have hk : k < st.length := by
    rw [List.length_take] at hl
    omega
  have e1 : st[k] = (2, o) := by
    have := List.drop_eq_getElem_cons hk
    rw [h] at this
    exact (List.cons.inj this).1.symm
  refine ⟨?_, ?_, ?_⟩
  · rw [List.take_succ_eq_append_getElem hk, List.reverse_append, e1]
    rfl
  · rw [List.reverse_reverse, ← e1, ← List.drop_eq_getElem_cons hk, List.take_append_drop]
  · rw [List.length_reverse, List.length_take]
    omega
theorem zrtn_i {t : Option FieldType} {x : Int} {k : Prop} (h : zrtn t x k) : znr t x ∧ k := by
  unfold zrtn at h
  split at h
  · exact ⟨trivial, h⟩
  · exact h
theorem zend_i {h : zHdr} {n0 n : Nat} {k : Prop} (h1 : n0 ≤ n) (h2 : n ≤ n0 + hMc h) (hh : zend h n0 n k) : n = n0 + hMc h ∧ k := by
  unfold zend at hh
  split at hh
  · rename_i e
    exact ⟨by omega, hh⟩
  · exact hh
set_option maxHeartbeats 4000000 in
set_option maxRecDepth 100000 in
theorem zstep_ok {l : Launch} {G : zG} {md d : Nat} {h : zHdr} {code : List zIns} {n0 : Nat} {Q : Int → zH → Prop} {QX : Nat → zH → Prop} {go : zGo} {p : Nat} {e : zIns} {L st : List zV} {v : zH} {n : Nat} (he : code[p]? = some e) (hck : zce h code p e = true) (hLL : L.length = hL h)
    (hgo : ∀ (q : Nat) (L : List zV) (st : List zV) (v : zH) (n : Nat), L.length = hL h → go (code.drop q) L st v n → zJ l G md d h code n0 Q QX q L st v n)
    (hs : zstep l G md d h code n0 Q QX go e (code.drop (p + 1)) L st v n) : zJ l G md d h code n0 Q QX p L st v n := by
  have hck0 : ∃ b1 b2 : Bool, (b1 = true ∧ decode (hB h) (iPc e) = .ok (iI e, iLen e)) ∧ (Nat.beq (zlen (iI e)) 0 || Nat.beq (iLen e) (zlen (iI e))) = true ∧ (!(zfall (iI e)) || znx code (p + 1) (iPc e + iLen e) || zexc (iI e) (iR e)) = true ∧ zci h code e = true := by
    unfold zce at hck
    have g1 := z_and hck
    have g2 := z_and g1.1
    have g3 := z_and g2.1
    have g4 := z_and g3.1
    exact ⟨_, true, ⟨g4.1, of_decide_eq_true g4.2⟩, g3.2, g2.2, g1.2⟩
  clear hck
  obtain ⟨b1, b2, ⟨hb1, hdecA⟩, hln, hfl, hci⟩ := hck0
  clear hb1
  have hln2 : zlen (iI e) ≠ 0 → iLen e = zlen (iI e) := by
    intro q
    rw [Bool.or_eq_true] at hln
    rcases hln with h0 | h0
    · exact absurd (Nat.eq_of_beq_eq_true h0) q
    · exact Nat.eq_of_beq_eq_true h0
  have hdec2 : zlen (iI e) ≠ 0 → decode (hB h) (iPc e) = .ok (iI e, zlen (iI e)) := by
    intro q
    rw [← hln2 q]
    exact hdecA
  have hpc : zpc code p = iPc e := by unfold zpc; rw [he]
  have nx : zfall (iI e) = true ∧ zexc (iI e) (iR e) = false ∧ zlen (iI e) ≠ 0 → ∀ (L : List zV) (st : List zV) (v : zH) (n : Nat), L.length = hL h → go (code.drop (p + 1)) L st v n → zJp l G md d h n0 Q QX (iPc e + zlen (iI e)) L st v n := by
    intro hf L st v n hl hg
    have key := hgo (p + 1) L st v n hl hg
    rw [hf.1, hf.2.1] at hfl
    simp only [Bool.not_true, Bool.false_or, Bool.or_false] at hfl
    have e2 : zpc code (p + 1) = iPc e + iLen e := by
      unfold znx at hfl
      unfold zpc
      cases he' : code[p + 1]? with
      | none => rw [he'] at hfl; cases hfl
      | some e' => rw [he'] at hfl; exact Nat.eq_of_beq_eq_true hfl
    unfold zJ at key
    rw [e2, hln2 hf.2.2] at key
    exact key
  unfold zJ
  rw [hpc]
  obtain ⟨pos, pc, cut, ins, len, R⟩ := e
  cases ins
  all_goals try exact False.elim hs
  all_goals change zJp l G md d h n0 Q QX pc L st v n
  all_goals try have hdec := hdec2 (Nat.succ_ne_zero _)
  case iconst k =>
    exact zs_iconst hdec ⟨of_decide_eq_true (z_and hci).1, of_decide_eq_true (z_and hci).2⟩ (nx ⟨rfl, rfl, Nat.succ_ne_zero _⟩ _ _ _ _ hLL hs)
  case bipush k =>
    exact zs_bipush hdec (of_decide_eq_true (z_and hci).1) (of_decide_eq_true (z_and hci).2) (nx ⟨rfl, rfl, Nat.succ_ne_zero _⟩ _ _ _ _ hLL hs)
  case sipush k =>
    exact zs_sipush hdec (of_decide_eq_true (z_and hci).1) (of_decide_eq_true (z_and hci).2) (nx ⟨rfl, rfl, Nat.succ_ne_zero _⟩ _ _ _ _ hLL hs)
  case ldc i =>
    simp only [zstep, zci, iI, iR] at hs hci
    by_cases hC : rC R = 0
    · rw [hC] at hs hci
      simp only at hs hci
      split at hci
      · have h1 := z_and hci
        have h2 := z_and h1.1
        exact zs_ldc hdec (zwd_ok h2.1) ⟨of_decide_eq_true h2.2, of_decide_eq_true h1.2⟩ (nx ⟨rfl, rfl, Nat.succ_ne_zero _⟩ _ _ _ _ hLL hs)
      · cases hci
    · obtain ⟨c, hc⟩ : ∃ c, rC R = c + 1 := ⟨rC R - 1, by omega⟩
      rw [hc] at hs hci
      simp only at hs hci
      have h1 := z_and hci
      have h2 : hO h = "WarmWall$Wall" := of_decide_eq_true h1.1
      have h3 := h1.2
      simp only [Bool.or_eq_true, Bool.and_eq_true, decide_eq_true_eq] at h3
      rcases h3 with (⟨e1, e2⟩ | ⟨e1, e2⟩) | ⟨e1, e2⟩
      · rw [of_decide_eq_true e2] at hs; subst e1; exact zs_ldcS (tx := "thg") (x := -11) hdec (fun U H q => by rw [h2]; exact q.2.2.2.2.1.1) (by omega) (nx ⟨rfl, rfl, Nat.succ_ne_zero _⟩ _ _ _ _ hLL hs)
      · rw [of_decide_eq_true e2] at hs; subst e1; exact zs_ldcS (tx := "rcfuh") (x := -12) hdec (fun U H q => by rw [h2]; exact q.2.2.2.2.1.2.1) (by omega) (nx ⟨rfl, rfl, Nat.succ_ne_zero _⟩ _ _ _ _ hLL hs)
      · rw [of_decide_eq_true e2] at hs; subst e1; exact zs_ldcS (tx := "wf") (x := -13) hdec (fun U H q => by rw [h2]; exact q.2.2.2.2.1.2.2) (by omega) (nx ⟨rfl, rfl, Nat.succ_ne_zero _⟩ _ _ _ _ hLL hs)
  case ldc_w i =>
    simp only [zstep, zci, iI, iR] at hs hci
    split at hci
    · have h1 := z_and hci
      have h2 := z_and h1.1
      exact zs_ldcw hdec (zwd_ok h2.1) ⟨of_decide_eq_true h2.2, of_decide_eq_true h1.2⟩ (nx ⟨rfl, rfl, Nat.succ_ne_zero _⟩ _ _ _ _ hLL hs)
    · cases hci
  case ldc2_w i =>
    simp only [zstep, zci, iI, iR] at hs hci
    split at hci
    · have h1 := z_and hci
      have h2 := z_and h1.1
      exact zs_ldc2 hdec (zwd_ok h2.1) ⟨of_decide_eq_true h2.2, of_decide_eq_true h1.2⟩ (nx ⟨rfl, rfl, Nat.succ_ne_zero _⟩ _ _ _ _ hLL hs)
    · cases hci
  case lconst f =>
    exact zs_lconst hdec (nx ⟨rfl, rfl, Nat.succ_ne_zero _⟩ _ _ _ _ hLL hs)
  case iload i =>
    obtain ⟨x, h1, h2⟩ := zget_i hs
    exact zs_iload hdec h1 (nx ⟨rfl, rfl, Nat.succ_ne_zero _⟩ _ _ _ _ hLL h2)
  case iload_n i =>
    obtain ⟨x, h1, h2⟩ := zget_i hs
    exact zs_iload_n hdec h1 (nx ⟨rfl, rfl, Nat.succ_ne_zero _⟩ _ _ _ _ hLL h2)
  case lload i =>
    obtain ⟨x, h1, h2⟩ := zget_i hs
    exact zs_lload hdec h1 (nx ⟨rfl, rfl, Nat.succ_ne_zero _⟩ _ _ _ _ hLL h2)
  case lload_n i =>
    obtain ⟨x, h1, h2⟩ := zget_i hs
    exact zs_lload_n hdec h1 (nx ⟨rfl, rfl, Nat.succ_ne_zero _⟩ _ _ _ _ hLL h2)
  case aload i =>
    obtain ⟨x, h1, h2⟩ := zget_i hs
    exact zs_aload hdec h1 (nx ⟨rfl, rfl, Nat.succ_ne_zero _⟩ _ _ _ _ hLL h2)
  case aload_n i =>
    obtain ⟨x, h1, h2⟩ := zget_i hs
    exact zs_aload_n hdec h1 (nx ⟨rfl, rfl, Nat.succ_ne_zero _⟩ _ _ _ _ hLL h2)
  case istore i =>
    obtain ⟨x, r, rfl, h1⟩ := z1_i hs
    obtain ⟨h2, h3, h4⟩ := zput_i h1
    exact zs_istore hdec h3 hLL h2 (nx ⟨rfl, rfl, Nat.succ_ne_zero _⟩ _ _ _ _ (by rw [List.length_set]; exact hLL) h4)
  case istore_n i =>
    obtain ⟨x, r, rfl, h1⟩ := z1_i hs
    obtain ⟨h2, h3, h4⟩ := zput_i h1
    exact zs_istore_n hdec h3 hLL h2 (nx ⟨rfl, rfl, Nat.succ_ne_zero _⟩ _ _ _ _ (by rw [List.length_set]; exact hLL) h4)
  case astore i =>
    obtain ⟨x, r, rfl, h1⟩ := z1r_i hs
    obtain ⟨h2, h3, h4⟩ := zput_i h1
    exact zs_astore hdec h3 hLL h2 (nx ⟨rfl, rfl, Nat.succ_ne_zero _⟩ _ _ _ _ (by rw [List.length_set]; exact hLL) h4)
  case astore_n i =>
    obtain ⟨x, r, rfl, h1⟩ := z1r_i hs
    obtain ⟨h2, h3, h4⟩ := zput_i h1
    exact zs_astore_n hdec h3 hLL h2 (nx ⟨rfl, rfl, Nat.succ_ne_zero _⟩ _ _ _ _ (by rw [List.length_set]; exact hLL) h4)
  case lstore i =>
    obtain ⟨x, r, rfl, h1⟩ := z1l_i hs
    obtain ⟨h2, h3, h4⟩ := zput2_i h1
    exact zs_lstore hdec h3 hLL h2 (nx ⟨rfl, rfl, Nat.succ_ne_zero _⟩ _ _ _ _ (by rw [List.length_set, List.length_set]; exact hLL) h4)
  case lstore_n i =>
    obtain ⟨x, r, rfl, h1⟩ := z1l_i hs
    obtain ⟨h2, h3, h4⟩ := zput2_i h1
    exact zs_lstore_n hdec h3 hLL h2 (nx ⟨rfl, rfl, Nat.succ_ne_zero _⟩ _ _ _ _ (by rw [List.length_set, List.length_set]; exact hLL) h4)
  case iinc i k =>
    obtain ⟨x, h1, h2, h3⟩ := zget_i hs
    obtain ⟨h4, h5, h6⟩ := zput_i h3
    exact zs_iinc hdec h1 hLL h4 h2 (nx ⟨rfl, rfl, Nat.succ_ne_zero _⟩ _ _ _ _ (by rw [List.length_set]; exact hLL) h6)
  case iadd =>
    obtain ⟨x, y, r, rfl, h1, h2⟩ := z2_i hs
    exact zs_iadd hdec h1 (nx ⟨rfl, rfl, Nat.succ_ne_zero _⟩ _ _ _ _ hLL h2)
  case isub =>
    obtain ⟨x, y, r, rfl, h1, h2⟩ := z2_i hs
    exact zs_isub hdec h1 (nx ⟨rfl, rfl, Nat.succ_ne_zero _⟩ _ _ _ _ hLL h2)
  case imul =>
    obtain ⟨x, y, r, rfl, h1, h2⟩ := z2_i hs
    exact zs_imul hdec h1 (nx ⟨rfl, rfl, Nat.succ_ne_zero _⟩ _ _ _ _ hLL h2)
  case ladd =>
    obtain ⟨x, y, r, rfl, h1, h2⟩ := z2l_i hs
    exact zs_ladd hdec h1 (nx ⟨rfl, rfl, Nat.succ_ne_zero _⟩ _ _ _ _ hLL h2)
  case lsub =>
    obtain ⟨x, y, r, rfl, h1, h2⟩ := z2l_i hs
    exact zs_lsub hdec h1 (nx ⟨rfl, rfl, Nat.succ_ne_zero _⟩ _ _ _ _ hLL h2)
  case lmul =>
    obtain ⟨x, y, r, rfl, h1, h2⟩ := z2l_i hs
    exact zs_lmul hdec h1 (nx ⟨rfl, rfl, Nat.succ_ne_zero _⟩ _ _ _ _ hLL h2)
  case idiv =>
    obtain ⟨x, y, r, rfl, h1⟩ := z2_i hs
    simp only [iR] at h1
    split at h1
    · unfold zpos at h1
      split at h1
      · rename_i k
        refine zstk_b fun hq => ?_
        have hxr := (zStk_c.mp (zStk_c.mp hq).2).1.1
        exact zs_idiv hdec (by first | (simp; done) | (simp; omega)) (zI_tdiv hxr (by first | (simp; done) | (simp; omega))) (nx ⟨rfl, rfl, Nat.succ_ne_zero _⟩ _ _ _ _ hLL h1)
      · exact h1.elim
    · exact zs_idiv hdec h1.1 h1.2.1 (nx ⟨rfl, rfl, Nat.succ_ne_zero _⟩ _ _ _ _ hLL h1.2.2)
  case irem =>
    obtain ⟨x, y, r, rfl, h1⟩ := z2_i hs
    simp only [iR] at h1
    split at h1
    · unfold zpos at h1
      split at h1
      · rename_i k
        refine zstk_b fun hq => ?_
        have hxr := (zStk_c.mp (zStk_c.mp hq).2).1.1
        exact zs_irem hdec (by first | (simp; done) | (simp; omega)) (zI_tdiv hxr (by first | (simp; done) | (simp; omega))) (nx ⟨rfl, rfl, Nat.succ_ne_zero _⟩ _ _ _ _ hLL h1)
      · exact h1.elim
    · exact zs_irem hdec h1.1 h1.2.1 (nx ⟨rfl, rfl, Nat.succ_ne_zero _⟩ _ _ _ _ hLL h1.2.2)
  case ldiv =>
    obtain ⟨x, y, r, rfl, h1, h2, h3⟩ := z2l_i hs
    exact zs_ldiv hdec h1 h2 (nx ⟨rfl, rfl, Nat.succ_ne_zero _⟩ _ _ _ _ hLL h3)
  case iand =>
    obtain ⟨x, y, r, rfl, h2⟩ := z2_i hs
    exact zs_iand hdec (nx ⟨rfl, rfl, Nat.succ_ne_zero _⟩ _ _ _ _ hLL h2)
  case ior =>
    obtain ⟨x, y, r, rfl, h2⟩ := z2_i hs
    exact zs_ior hdec (nx ⟨rfl, rfl, Nat.succ_ne_zero _⟩ _ _ _ _ hLL h2)
  case ixor =>
    obtain ⟨x, y, r, rfl, h2⟩ := z2_i hs
    exact zs_ixor hdec (nx ⟨rfl, rfl, Nat.succ_ne_zero _⟩ _ _ _ _ hLL h2)
  case ishl =>
    obtain ⟨x, y, r, rfl, h2⟩ := z2_i hs
    exact zs_ishl hdec (nx ⟨rfl, rfl, Nat.succ_ne_zero _⟩ _ _ _ _ hLL h2)
  case ishr =>
    obtain ⟨x, y, r, rfl, h2⟩ := z2_i hs
    exact zs_ishr hdec (nx ⟨rfl, rfl, Nat.succ_ne_zero _⟩ _ _ _ _ hLL h2)
  case iushr =>
    obtain ⟨x, y, r, rfl, h2⟩ := z2_i hs
    exact zs_iushr hdec (nx ⟨rfl, rfl, Nat.succ_ne_zero _⟩ _ _ _ _ hLL h2)
  case lcmp =>
    obtain ⟨x, y, r, rfl, h2⟩ := z2l_i hs
    exact zs_lcmp hdec (nx ⟨rfl, rfl, Nat.succ_ne_zero _⟩ _ _ _ _ hLL h2)
  case ineg =>
    obtain ⟨x, r, rfl, h1, h2⟩ := z1_i hs
    exact zs_ineg hdec h1 (nx ⟨rfl, rfl, Nat.succ_ne_zero _⟩ _ _ _ _ hLL h2)
  case i2c =>
    obtain ⟨x, r, rfl, h1, h2⟩ := z1_i hs
    exact zs_i2c hdec h1 (nx ⟨rfl, rfl, Nat.succ_ne_zero _⟩ _ _ _ _ hLL h2)
  case i2l =>
    obtain ⟨x, r, rfl, h2⟩ := z1_i hs
    exact zs_i2l hdec (nx ⟨rfl, rfl, Nat.succ_ne_zero _⟩ _ _ _ _ hLL h2)
  case l2i =>
    obtain ⟨x, r, rfl, h1, h2⟩ := z1l_i hs
    exact zs_l2i hdec h1 (nx ⟨rfl, rfl, Nat.succ_ne_zero _⟩ _ _ _ _ hLL h2)
  case dup =>
    simp only [zstep, iI] at hs
    split at hs
    · split at hs
      · exact hs.elim
      · rename_i ht
        exact zs_dup hdec ht (nx ⟨rfl, rfl, Nat.succ_ne_zero _⟩ _ _ _ _ hLL hs)
    · exact hs.elim
  case dup2 =>
    simp only [zstep, iI] at hs
    split at hs
    · exact zs_dup2 hdec (nx ⟨rfl, rfl, Nat.succ_ne_zero _⟩ _ _ _ _ hLL hs)
    · exact hs.elim
  case pop =>
    simp only [zstep, iI] at hs
    split at hs
    · exact zs_pop hdec (nx ⟨rfl, rfl, Nat.succ_ne_zero _⟩ _ _ _ _ hLL hs)
    · exact hs.elim
  case ifCond cnd off =>
    obtain ⟨x, r, rfl, h1⟩ := z1_i hs
    have ht := ztg_ok (show ztg code (rA R) pc off = true from hci)
    cases cnd
    case eq => exact zs_if_eq hdec ht (fun q => hgo _ _ _ _ _ hLL (h1.1 q)) (fun q => nx ⟨rfl, rfl, Nat.succ_ne_zero _⟩ _ _ _ _ hLL (h1.2 q))
    case ne => exact zs_if_ne hdec ht (fun q => hgo _ _ _ _ _ hLL (h1.1 q)) (fun q => nx ⟨rfl, rfl, Nat.succ_ne_zero _⟩ _ _ _ _ hLL (h1.2 q))
    case lt => exact zs_if_lt hdec ht (fun q => hgo _ _ _ _ _ hLL (h1.1 q)) (fun q => nx ⟨rfl, rfl, Nat.succ_ne_zero _⟩ _ _ _ _ hLL (h1.2 q))
    case ge => exact zs_if_ge hdec ht (fun q => hgo _ _ _ _ _ hLL (h1.1 q)) (fun q => nx ⟨rfl, rfl, Nat.succ_ne_zero _⟩ _ _ _ _ hLL (h1.2 q))
    case gt => exact zs_if_gt hdec ht (fun q => hgo _ _ _ _ _ hLL (h1.1 q)) (fun q => nx ⟨rfl, rfl, Nat.succ_ne_zero _⟩ _ _ _ _ hLL (h1.2 q))
    case le => exact zs_if_le hdec ht (fun q => hgo _ _ _ _ _ hLL (h1.1 q)) (fun q => nx ⟨rfl, rfl, Nat.succ_ne_zero _⟩ _ _ _ _ hLL (h1.2 q))
  case if_icmp cnd off =>
    obtain ⟨x, y, r, rfl, h1⟩ := z2_i hs
    have ht := ztg_ok (show ztg code (rA R) pc off = true from hci)
    cases cnd
    case eq => exact zs_icmp_eq hdec ht (fun q => hgo _ _ _ _ _ hLL (h1.1 q)) (fun q => nx ⟨rfl, rfl, Nat.succ_ne_zero _⟩ _ _ _ _ hLL (h1.2 q))
    case ne => exact zs_icmp_ne hdec ht (fun q => hgo _ _ _ _ _ hLL (h1.1 q)) (fun q => nx ⟨rfl, rfl, Nat.succ_ne_zero _⟩ _ _ _ _ hLL (h1.2 q))
    case lt => exact zs_icmp_lt hdec ht (fun q => hgo _ _ _ _ _ hLL (h1.1 q)) (fun q => nx ⟨rfl, rfl, Nat.succ_ne_zero _⟩ _ _ _ _ hLL (h1.2 q))
    case ge => exact zs_icmp_ge hdec ht (fun q => hgo _ _ _ _ _ hLL (h1.1 q)) (fun q => nx ⟨rfl, rfl, Nat.succ_ne_zero _⟩ _ _ _ _ hLL (h1.2 q))
    case gt => exact zs_icmp_gt hdec ht (fun q => hgo _ _ _ _ _ hLL (h1.1 q)) (fun q => nx ⟨rfl, rfl, Nat.succ_ne_zero _⟩ _ _ _ _ hLL (h1.2 q))
    case le => exact zs_icmp_le hdec ht (fun q => hgo _ _ _ _ _ hLL (h1.1 q)) (fun q => nx ⟨rfl, rfl, Nat.succ_ne_zero _⟩ _ _ _ _ hLL (h1.2 q))
  case goto off =>
    exact zs_goto hdec (ztg_ok (show ztg code (rA R) pc off = true from hci)) (hgo _ _ _ _ _ hLL hs)
  case tableswitch dflt lo hi offs =>
    obtain ⟨x, r, rfl, h1, h2⟩ := z1_i hs
    obtain ⟨q0, q6⟩ := z_and hci
    obtain ⟨q0, q5⟩ := z_and q0
    obtain ⟨q0, q4⟩ := z_and q0
    obtain ⟨q0, q3⟩ := z_and q0
    obtain ⟨q1, q2⟩ := z_and q0
    refine zs_tsw hdecA (of_decide_eq_true q2) (of_decide_eq_true q3) (of_decide_eq_true q5) (of_decide_eq_true q6) (ztg_ok q1) (fun k o t a b => ?_) (fun q => hgo _ _ _ _ _ hLL (h1 q)) ?_
    · have hz : (List.zip offs.toList (rW R))[k]? = some (o, t) := List.getElem?_zip_eq_some.mpr ⟨a, b⟩
      exact ztg_ok (List.all_eq_true.mp q4 _ (List.mem_of_getElem? hz))
    · exact zsw_mono (fun t ht => hgo _ _ _ _ _ hLL ht) h2
  case lookupswitch dflt ps =>
    obtain ⟨x, r, rfl, h2⟩ := z1_i hs
    obtain ⟨q0, q4⟩ := z_and hci
    obtain ⟨q0, q3⟩ := z_and q0
    obtain ⟨q1, q2⟩ := z_and q0
    refine zs_lsw hdecA (of_decide_eq_true q2) q4 (ztg_ok q1) (fun k o t a b => ?_) ?_
    · have hz : (List.zip ps.toList (rW R))[k]? = some (o, t) := List.getElem?_zip_eq_some.mpr ⟨a, b⟩
      exact ztg_ok (List.all_eq_true.mp q3 _ (List.mem_of_getElem? hz))
    · exact zlk_mono (fun t ht => hgo _ _ _ _ _ hLL ht) h2
  case getfield i =>
    obtain ⟨a, r, rfl, h1⟩ := z1r_i hs
    simp only [zgetf, zci, iI, iR] at h1 hci
    split at h1
    · rename_i hC; rw [hC] at hci; simp only at hci
      obtain ⟨q0, q2⟩ := z_and hci
      obtain ⟨q0, q1⟩ := z_and q0
      have e1 := Nat.eq_of_beq_eq_true q1; have e2 := Nat.eq_of_beq_eq_true q2
      exact zs_getf hdec q0 h1.1 e1 (fun i hi => by subst hi; exact zfv_n (by rw [h1.1, e2]; simp)) (Or.inl rfl) (Or.inr rfl) (nx ⟨rfl, rfl, Nat.succ_ne_zero _⟩ _ _ _ _ hLL h1.2)
    · rename_i hC; rw [hC] at hci; simp only at hci
      obtain ⟨q0, q2⟩ := z_and hci
      obtain ⟨q0, q1⟩ := z_and q0
      have e1 := Nat.eq_of_beq_eq_true q1; have e2 := Nat.eq_of_beq_eq_true q2
      exact zs_getf hdec q0 h1.1 e1 (fun i hi => by subst hi; exact zfv_n (by rw [h1.1, e2]; simp)) (Or.inr rfl) (Or.inl h1.2.1) (nx ⟨rfl, rfl, Nat.succ_ne_zero _⟩ _ _ _ _ hLL h1.2.2)
    · rename_i hC; rw [hC] at hci; simp only at hci
      obtain ⟨q0, q2⟩ := z_and hci
      obtain ⟨q0, q1⟩ := z_and q0
      have e1 := Nat.eq_of_beq_eq_true q1; have e2 := of_decide_eq_true q2
      split at h1
      · refine zs_getf hdec q0 h1.1 rfl (fun i hi => by subst hi; exact zfv_f (by rw [h1.1, e1]; simp) (by unfold zFK; rw [h1.1, e1, if_neg (by omega), e2])) (zFT_02 _ _) (Or.inl ?_) (nx ⟨rfl, rfl, Nat.succ_ne_zero _⟩ _ _ _ _ hLL h1.2)
        have h9 := zCL_lt24 h1.1 (zfld_ok q0).1; have h8 := zFn_off (rA R) (rB R); rw [e1, e2] at h8; have h7 := h8 rfl; omega
      · rename_i hmd
        exact zs_getf hdec q0 h1.1 rfl (fun i hi => by subst hi; exact zfv_n (fun z => hmd z.1)) (zFT_02 _ _) (Or.inl h1.2.1) (nx ⟨rfl, rfl, Nat.succ_ne_zero _⟩ _ _ _ _ hLL h1.2.2)
    · rename_i hC; rw [hC] at hci; simp only at hci
      obtain ⟨q0, q1⟩ := z_and hci
      have e1 := Nat.eq_of_beq_eq_true q1
      split at h1
      · refine zs_getf hdec q0 h1.1 rfl (fun i hi => by subst hi; exact zfv_f (by rw [h1.1, e1]; simp) (by unfold zFK; rw [h1.1, e1, if_pos rfl])) (zFT_02 _ _) (Or.inl ?_) (nx ⟨rfl, rfl, Nat.succ_ne_zero _⟩ _ _ _ _ hLL h1.2)
        exact zKT_ne _ _
      · rename_i hmd
        exact zs_getf hdec q0 h1.1 rfl (fun i hi => by subst hi; exact zfv_n (fun z => hmd z.1)) (zFT_02 _ _) (Or.inl h1.2.1) (nx ⟨rfl, rfl, Nat.succ_ne_zero _⟩ _ _ _ _ hLL h1.2.2)
    · rename_i hC; rw [hC] at hci; simp only at hci
      split at hci
      · exact zs_sval hdec (zwd_ok hci) h1.1 (nx ⟨rfl, rfl, Nat.succ_ne_zero _⟩ _ _ _ _ hLL h1.2)
      · cases hci
    · rename_i n0 n1 n2 n3 n5
      split at hci
      · rename_i e; exact absurd e n0
      · rename_i e; exact absurd e n1
      · rename_i e; exact absurd e n2
      · rename_i e; exact absurd e n3
      · rename_i e; exact absurd e n5
      · split at hci
        · exact zs_scod hdec (zwd_ok hci) h1.1 (nx ⟨rfl, rfl, Nat.succ_ne_zero _⟩ _ _ _ _ hLL h1.2)
        · cases hci
  case putfield i =>
    obtain ⟨t, x, a, r, rfl, h0, h1⟩ := zpf_i hs
    simp only [zputf, zci, iI, iR] at h0 h1 hci
    split at h1
    · exact h1.elim
    · rename_i ht; have ht := Nat.eq_of_beq_eq_true ht
      obtain ⟨q0, q1⟩ := z_and hci
      split at h1
      · rename_i hC; rw [hC] at q1; simp only [Bool.and_eq_true, Bool.not_eq_true'] at q1
        exact zs_putf hdec q0 h0 ht.symm (Or.inl ⟨Nat.eq_of_beq_eq_true q1.1.1, ht.trans (Nat.eq_of_beq_eq_true q1.1.2)⟩) (Or.inl q1.2) (zfin_n (zfld_ok q0).1 (zfld_ok q0).2.1 q1.2) (nx ⟨rfl, rfl, Nat.succ_ne_zero _⟩ _ _ _ _ hLL h1)
      · rename_i hC; rw [hC] at q1; simp only [Bool.and_eq_true, Bool.not_eq_true'] at q1
        exact zs_putf hdec q0 h0 ht.symm (Or.inr (Or.inl ⟨Nat.eq_of_beq_eq_true q1.1.1, ht.trans (Nat.eq_of_beq_eq_true q1.1.2), h1.1⟩)) (Or.inl q1.2) (zfin_n (zfld_ok q0).1 (zfld_ok q0).2.1 q1.2) (nx ⟨rfl, rfl, Nat.succ_ne_zero _⟩ _ _ _ _ hLL h1.2)
      · rename_i hC; rw [hC] at q1; simp only [Bool.and_eq_true, Bool.not_eq_true'] at q1
        exact zs_putf hdec q0 h0 ht.symm (Or.inr (Or.inr ⟨Nat.eq_of_beq_eq_true q1.1.1, ht.trans (Nat.eq_of_beq_eq_true q1.1.2)⟩)) (Or.inl q1.2) (zfin_n (zfld_ok q0).1 (zfld_ok q0).2.1 q1.2) (nx ⟨rfl, rfl, Nat.succ_ne_zero _⟩ _ _ _ _ hLL h1)
      · rename_i c0 c1 c2
        split at h1
        · split at q1
          · rename_i e; exact absurd e c0
          · rename_i e; exact absurd e c1
          · rename_i e; exact absurd e c2
          · simp only [Bool.and_eq_true] at q1
            exact zs_putf hdec q0 h0 ht.symm (Or.inl ⟨Nat.eq_of_beq_eq_true q1.1.1.1.1, ht.trans (Nat.eq_of_beq_eq_true q1.1.1.1.2)⟩) (Or.inr ⟨q1.1.1.2, q1.1.2, of_decide_eq_true q1.2⟩) (fun z => by cases z.1) (nx ⟨rfl, rfl, Nat.succ_ne_zero _⟩ _ _ _ _ hLL h1)
          · simp only [Bool.and_eq_true] at q1
            exact zs_putf hdec q0 h0 ht.symm (Or.inr (Or.inr ⟨Nat.eq_of_beq_eq_true q1.1.1.1.1, ht.trans (Nat.eq_of_beq_eq_true q1.1.1.1.2)⟩)) (Or.inr ⟨q1.1.1.2, q1.1.2, of_decide_eq_true q1.2⟩) (fun z => by cases z.1) (nx ⟨rfl, rfl, Nat.succ_ne_zero _⟩ _ _ _ _ hLL h1)
        · exact h1.elim
  case getstatic i =>
    simp only [zstep, zci, iI, iR] at hs hci
    split at hci
    · rename_i w hW
      split at hs
      · rename_i hC; rw [hC] at hci; simp only at hci
        obtain ⟨q0, q2⟩ := z_and hci
        obtain ⟨q0, q1⟩ := z_and q0
        rw [of_decide_eq_true q1] at hs
        exact zs_gst0 hdec (of_decide_eq_true q0) (zwd_ok q2) (nx ⟨rfl, rfl, Nat.succ_ne_zero _⟩ _ _ _ _ hLL hs)
      · rename_i hC; rw [hC] at hci; simp only at hci
        exact zs_gst1 hdec (zwd_ok hci) (nx ⟨rfl, rfl, Nat.succ_ne_zero _⟩ _ _ _ _ hLL hs)
      · rename_i c0 c1
        split at hci
        · rename_i e; exact absurd e c0
        · rename_i e; exact absurd e c1
        · obtain ⟨q0, q1⟩ := z_and hci
          rw [of_decide_eq_true q0] at hs
          exact zs_gst2 hdec (zwd_ok q1) (nx ⟨rfl, rfl, Nat.succ_ne_zero _⟩ _ _ _ _ hLL hs)
    · cases hci
  case iaload =>
    obtain ⟨a, j, r, rfl, h1⟩ := zix_i hs
    simp only [iR] at h1
    split at h1
    · exact zs_iald hdec h1.1 h1.2.1 (nx ⟨rfl, rfl, Nat.succ_ne_zero _⟩ _ _ _ _ hLL h1.2.2)
    · exact zs_sld hdec h1.1 h1.2.1 (nx ⟨rfl, rfl, Nat.succ_ne_zero _⟩ _ _ _ _ hLL h1.2.2)
    · obtain ⟨rfl, h2, h3⟩ := h1
      exact zs_cld hdec h2 (nx ⟨rfl, rfl, Nat.succ_ne_zero _⟩ _ _ _ _ hLL h3)
  case baload =>
    obtain ⟨a, j, r, rfl, h1⟩ := zix_i hs
    simp only [iR] at h1
    split at h1
    · exact zs_zald hdec h1.1 h1.2.1 (nx ⟨rfl, rfl, Nat.succ_ne_zero _⟩ _ _ _ _ hLL h1.2.2)
    · exact zs_bld hdec h1.1 h1.2.1 (nx ⟨rfl, rfl, Nat.succ_ne_zero _⟩ _ _ _ _ hLL h1.2.2)
  case laload =>
    obtain ⟨a, j, r, rfl, h1, h2, h3⟩ := zix_i hs
    exact zs_lald hdec h1 h2 (nx ⟨rfl, rfl, Nat.succ_ne_zero _⟩ _ _ _ _ hLL h3)
  case aaload =>
    obtain ⟨a, j, r, rfl, h1, h2, h3, h4⟩ := zix_i hs
    exact zs_aald hdec h1 h2 h3 (nx ⟨rfl, rfl, Nat.succ_ne_zero _⟩ _ _ _ _ hLL h4)
  case iastore =>
    obtain ⟨a, j, x, r, rfl, h1, h2, h3⟩ := zixv_i hs
    exact zs_iast hdec h1 h2 (nx ⟨rfl, rfl, Nat.succ_ne_zero _⟩ _ _ _ _ hLL h3)
  case bastore =>
    obtain ⟨a, j, x, r, rfl, h1, h2, h3, h4⟩ := zixv_i hs
    exact zs_zast hdec h1 h2 h3 (nx ⟨rfl, rfl, Nat.succ_ne_zero _⟩ _ _ _ _ hLL h4)
  case lastore =>
    obtain ⟨a, j, x, r, rfl, h1, h2, h3⟩ := zixv_i hs
    exact zs_last hdec h1 h2 (nx ⟨rfl, rfl, Nat.succ_ne_zero _⟩ _ _ _ _ hLL h3)
  case aastore =>
    obtain ⟨a, j, x, r, rfl, h1, h2, h3, h4⟩ := zixv_i hs
    exact zs_aast hdec h1 h2 h3 (nx ⟨rfl, rfl, Nat.succ_ne_zero _⟩ _ _ _ _ hLL h4)
  case arraylength =>
    obtain ⟨a, r, rfl, h1⟩ := z1r_i hs
    simp only [iR] at h1
    split at h1
    · exact zs_len hdec (h1.1.imp id Or.inl) (nx ⟨rfl, rfl, Nat.succ_ne_zero _⟩ _ _ _ _ hLL h1.2)
    · exact zs_slen hdec (Or.inl h1.1) (nx ⟨rfl, rfl, Nat.succ_ne_zero _⟩ _ _ _ _ hLL h1.2)
    · exact zs_slen hdec (Or.inr h1.1) (nx ⟨rfl, rfl, Nat.succ_ne_zero _⟩ _ _ _ _ hLL h1.2)
    · exact zs_len hdec (Or.inr (Or.inr h1.1)) (nx ⟨rfl, rfl, Nat.succ_ne_zero _⟩ _ _ _ _ hLL h1.2)
    · obtain ⟨rfl, h3⟩ := h1
      exact zs_clen hdec (nx ⟨rfl, rfl, Nat.succ_ne_zero _⟩ _ _ _ _ hLL h3)
  case new i =>
    simp only [zstep, zci, iI, iR, iPc] at hs hci
    split at hs
    · exact zs_exc hs.1 hs.2.1 hs.2.2
    · rename_i c9
      split at hci
      · rename_i e; exact absurd e c9
      · split at hci
        · obtain ⟨q0, q3⟩ := z_and hci
          obtain ⟨q0, q2⟩ := z_and q0
          obtain ⟨q0, q1⟩ := z_and q0
          obtain ⟨a1, a2, a3, a4, a5⟩ := znew_i hs
          exact zs_new hdec (of_decide_eq_true q0) (zwd_ok q1) (zwd_ok q2) (zwd_ok q3) a2 a1 a3 a4 (nx ⟨rfl, by simp only [zexc, iI, iR]; exact zbeq9 c9, Nat.succ_ne_zero _⟩ _ _ _ _ hLL a5)
        · cases hci
  case newarray t =>
    obtain ⟨x, r, rfl, h1⟩ := z1_i hs
    simp only [zci, iI, iR] at h1 hci
    obtain ⟨a1, a2, a3, a4, a5, a6⟩ := znew_i h1
    split at hci
    · have hA : rA R = 20 := by assumption
      rw [hA] at a2
      exact zs_newi hdec (zwd_ok hci) a2 a1 a3 a4 a5 (nx ⟨rfl, rfl, Nat.succ_ne_zero _⟩ _ _ _ _ hLL a6)
    · have hA : rA R = 21 := by assumption
      rw [hA] at a2
      exact zs_newz hdec (zwd_ok hci) a2 a1 a3 a4 a5 (nx ⟨rfl, rfl, Nat.succ_ne_zero _⟩ _ _ _ _ hLL a6)
    · have hA : rA R = 22 := by assumption
      rw [hA] at a2
      exact zs_newl hdec (zwd_ok hci) a2 a1 a3 a4 a5 (nx ⟨rfl, rfl, Nat.succ_ne_zero _⟩ _ _ _ _ hLL a6)
    · cases hci
  case anewarray i =>
    obtain ⟨x, r, rfl, h1⟩ := z1_i hs
    simp only [zci, iI, iR] at hci
    obtain ⟨a1, a2, a3, a4, a5, a6⟩ := znew_i h1
    split at hci
    · exact zs_newq hdec (zwd_ok hci) a2 a1 a3 a4 a5 (nx ⟨rfl, rfl, Nat.succ_ne_zero _⟩ _ _ _ _ hLL a6)
    · cases hci
  case invokestatic i =>
    simp only [zci, iI, iR] at hci
    obtain ⟨q0, hinv⟩ := z_and hci
    simp only [zstep, iI, iR] at hs
    split at hs
    · exact hs.elim
    · rename_i hk
      obtain ⟨w1, w2, w3, w4⟩ := zinv_7 hinv hk
      split at hs
      · obtain ⟨⟨a1, a2⟩, a3, a4⟩ := hs
        obtain ⟨d', rfl, a5⟩ := zdp_i a4
        split at a5
        · rename_i hcat
          exact zs_copy hdec w1 w2 w3 w4 (by omega) a1 a2 a3 (Nat.le_trans (zcats_ok _) (Nat.le_of_ble_eq_true hcat)) (nx ⟨rfl, rfl, Nat.succ_ne_zero _⟩ _ _ _ _ hLL a5)
        · exact a5.elim
      · exact hs.elim
    · rename_i hk
      obtain ⟨w1, w2, w3, w4⟩ := zinv_10 hinv hk
      obtain ⟨x, y, r, rfl, h1⟩ := z2_i hs
      obtain ⟨g1, g2, g3⟩ := zprim_i (G := G) h1
      exact zs_mmax hdec w1 w2 w3 w4 g1 g2 (nx ⟨rfl, rfl, Nat.succ_ne_zero _⟩ _ _ _ _ hLL g3)
    · rename_i hk
      obtain ⟨w1, w2, w3, w4⟩ := zinv_11 hinv hk
      obtain ⟨x, y, r, rfl, h1⟩ := z2_i hs
      obtain ⟨g1, g2, g3⟩ := zprim_i (G := G) h1
      exact zs_mmin hdec w1 w2 w3 w4 g1 g2 (nx ⟨rfl, rfl, Nat.succ_ne_zero _⟩ _ _ _ _ hLL g3)
    · rename_i hk
      obtain ⟨w1, w2, w3, w4⟩ := zinv_12 hinv hk
      obtain ⟨x, r, rfl, hneg, h1⟩ := z1_i hs
      obtain ⟨g1, g2, g3⟩ := zprim_i (G := G) h1
      exact zs_mabs hdec w1 w2 w3 w4 g1 g2 hneg (nx ⟨rfl, rfl, Nat.succ_ne_zero _⟩ _ _ _ _ hLL g3)
    · rename_i hk
      obtain ⟨w1, w2, w3, w4⟩ := zinv_13 hinv hk
      obtain ⟨x, y, r, rfl, h1⟩ := z2l_i hs
      obtain ⟨g1, g2, g3⟩ := zprim_i (G := G) h1
      exact zs_mmaxl hdec w1 w2 w3 w4 g1 g2 (nx ⟨rfl, rfl, Nat.succ_ne_zero _⟩ _ _ _ _ hLL g3)
    · rename_i hk
      obtain ⟨w1, w2, w3, w4⟩ := zinv_14 hinv hk
      obtain ⟨x, y, r, rfl, h1⟩ := z2l_i hs
      obtain ⟨g1, g2, g3⟩ := zprim_i (G := G) h1
      exact zs_mminl hdec w1 w2 w3 w4 g1 g2 (nx ⟨rfl, rfl, Nat.succ_ne_zero _⟩ _ _ _ _ hLL g3)
    · rename_i hk6a hk7 hk10 hk11 hk12 hk13 hk14
      by_cases hk : rA R = 2
      · have hm := zinv_m hinv (by omega)
        obtain ⟨i4, ⟨w1, w2, w3⟩, hcode⟩ := zinv_2 hinv hk
        refine zbudget_b fun b1 b2 b3 => ?_
        obtain ⟨d', rfl, hbud, hcat, hlen, hC⟩ := zcall_i hm (fun _ => ⟨b2, b3⟩) hs
        have key := zs_callS (l := l) (G := G) (md := md) (d := d') (h := h) (n0 := n0) (Q := Q) (QX := QX) (L := L) hdec hm hcode hm.2.2.2.2 hcat (by rw [List.length_reverse]; exact hlen) w1 w2 w3 hbud hC (fun r1 v1 q => nx ⟨rfl, rfl, Nat.succ_ne_zero _⟩ _ _ _ _ hLL q)
        rw [zst_split hlen] at key
        exact key
      · exfalso
        have h2 := (z_and hinv).2
        simp only [Bool.or_eq_true] at q0
        have hk6 : 5 < rA R := by
          rcases q0 with q | q
          · exact absurd (Nat.eq_of_beq_eq_true q) hk
          · simpa using q
        split at h2
        all_goals first | omega | (simp_all; done)
  case invokevirtual i =>
    simp only [zci, iI, iR] at hci
    obtain ⟨q0, hinv⟩ := z_and hci
    have hm := zinv_m hinv (by simp only [Bool.or_eq_true] at q0; rcases q0 with q | q <;> rw [Nat.eq_of_beq_eq_true q] <;> omega)
    obtain ⟨o, r, hdrop, hclo, h1⟩ := zrecv_i hs
    refine zbudget_b fun b1 b2 b3 => ?_
    obtain ⟨d', rfl, hbud, hcat, hlen, hC⟩ := zcall_i hm (fun _ => ⟨b2, b3⟩) h1
    obtain ⟨s1, s2, s3⟩ := zst_split1 hdrop hlen
    rw [s1] at hC
    simp only [Bool.or_eq_true] at q0
    rcases q0 with q | q
    · obtain ⟨i5, ⟨w1, w2, w3, w4⟩, hcode, hcn, hrc⟩ := zinv_0 hinv (Nat.eq_of_beq_eq_true q)
      have key := zs_callV (l := l) (G := G) (md := md) (d := d') (h := h) (n0 := n0) (Q := Q) (QX := QX) (L := L) (o := o) hdec hm hcode hm.2.2.2.2 hcat s3 w1 w2 w3 w4 hcn hrc hclo hbud hC (fun r1 v1 q => nx ⟨rfl, rfl, Nat.succ_ne_zero _⟩ _ _ _ _ hLL q)
      rw [← s2] at key
      exact key
    · obtain ⟨i6, x, ⟨w1, w2, w3, w4, w5⟩, hcode, hyx, hxd, hrc⟩ := zinv_1 hinv (Nat.eq_of_beq_eq_true q)
      have key := zs_callU (l := l) (G := G) (md := md) (d := d') (h := h) (n0 := n0) (Q := Q) (QX := QX) (L := L) (o := o) hdec hm hcode hm.2.2.2.2 hcat s3 w1 w2 w3 w4 w5 hyx hxd (Or.inl hrc) hclo hbud hC (fun r1 v1 q => nx ⟨rfl, rfl, Nat.succ_ne_zero _⟩ _ _ _ _ hLL q)
      rw [← s2] at key
      exact key
  case invokespecial i =>
    simp only [zci, iI, iR] at hci
    obtain ⟨q0, hinv⟩ := z_and hci
    simp only [zstep, iI, iR] at hs
    split at hs
    · rename_i hk
      obtain ⟨w1, w2, w3⟩ := zinv_5 hinv hk
      obtain ⟨x, r, rfl, h1⟩ := z1r_i hs
      obtain ⟨d', rfl, a5⟩ := zdp_i h1
      split at a5
      · rename_i hcat
        exact zs_obj hdec w1 w2 w3 (by omega) (Nat.le_trans (zcats_ok _) (Nat.le_of_ble_eq_true hcat)) (nx ⟨rfl, rfl, Nat.succ_ne_zero _⟩ _ _ _ _ hLL a5)
      · exact a5.elim
    · rename_i hk5
      have hm := zinv_m hinv (by simp only [Bool.or_eq_true] at q0; rcases q0 with (q | q) | q <;> first | (rw [Nat.eq_of_beq_eq_true q]; omega) | exact absurd (Nat.eq_of_beq_eq_true q) hk5)
      obtain ⟨o, r, hdrop, h1⟩ := zrecv_i hs
      refine zbudget_b fun b1 b2 b3 => ?_
      obtain ⟨d', rfl, hbud, hcat, hlen, hC⟩ := zcall_i hm (fun _ => ⟨b2, b3⟩) h1
      obtain ⟨s1, s2, s3⟩ := zst_split1 hdrop hlen
      rw [s1] at hC
      simp only [Bool.or_eq_true] at q0
      rcases q0 with (q | q) | q
      · obtain ⟨i4, ⟨w1, w2, w3⟩, hcode, hnm, hRn⟩ := zinv_3 hinv (Nat.eq_of_beq_eq_true q)
        have key := zs_callI (l := l) (G := G) (md := md) (d := d') (h := h) (n0 := n0) (Q := Q) (QX := QX) (L := L) (o := o) hdec hm hcode hm.2.2.2.2 hcat s3 w1 w2 w3 hnm hRn hbud hC (fun r1 v1 q => nx ⟨rfl, rfl, Nat.succ_ne_zero _⟩ _ _ _ _ hLL q)
        rw [← s2] at key
        exact key
      · obtain ⟨i4, ⟨w1, w2, w3⟩, hcode, hnm, hRn⟩ := zinv_4 hinv (Nat.eq_of_beq_eq_true q)
        have key := zs_callIN (l := l) (G := G) (md := md) (d := d') (h := h) (n0 := n0) (Q := Q) (QX := QX) (L := L) (o := o) hdec hm hcode hm.2.2.2.2 hcat s3 w1 w2 w3 hnm hRn hbud hC (fun r1 v1 q => nx ⟨rfl, rfl, Nat.succ_ne_zero _⟩ _ _ _ _ hLL q)
        rw [← s2] at key
        exact key
      · exact absurd (Nat.eq_of_beq_eq_true q) hk5
  case ireturn =>
    simp only [zstep, iI] at hs
    split at hs
    · refine zbudget_b fun b1 b2 b3 => ?_
      have hh := zrtn_i hs
      simp only [zci, iI, Bool.and_eq_true, Bool.or_eq_true] at hci
      obtain ⟨hci, hmc⟩ := hci
      have hmc := Nat.eq_of_beq_eq_true hmc
      rcases hci with q | q
      · have hT0 := Nat.eq_of_beq_eq_true q
        exact zs_ret (t := 0) hdec hT0 rfl (by omega) b3 (fun _ => hh.1) hh.2 (by omega)
      · have hT0 := Nat.eq_of_beq_eq_true q
        exact zs_ret (t := 4) hdec hT0 rfl (by omega) b3 (fun _ => hh.1) hh.2 (by omega)
    · exact hs.elim
  case lreturn =>
    simp only [zstep, iI] at hs
    split at hs
    · refine zbudget_b fun b1 b2 b3 => ?_
      obtain ⟨hci, hmc⟩ := z_and hci
      have hmc := Nat.eq_of_beq_eq_true hmc
      have hT0 := Nat.eq_of_beq_eq_true hci
      exact zs_ret (t := 1) hdec hT0 rfl (by omega) b3 (fun z => by omega) hs (by omega)
    · exact hs.elim
  case areturn =>
    simp only [zstep, iI] at hs
    split at hs
    · refine zbudget_b fun b1 b2 b3 => ?_
      obtain ⟨hci, hmc⟩ := z_and hci
      have hmc := Nat.eq_of_beq_eq_true hmc
      have hT0 := Nat.eq_of_beq_eq_true hci
      exact zs_ret (t := 2) hdec hT0 rfl (by omega) b3 (fun z => by omega) hs (by omega)
    · exact hs.elim
  case return_ =>
    simp only [zstep, iI] at hs
    split at hs
    · refine zbudget_b fun b1 b2 b3 => ?_
      have hT0 := Nat.eq_of_beq_eq_true hci
      obtain ⟨g1, g2⟩ := zend_i b1 b2 hs
      exact zs_ret (t := 3) hdec hT0 rfl g1 b3 (fun z => by omega) g2 (by omega)
    · exact hs.elim
theorem zck_at {h : zHdr} {code : List zIns} (hck : zck h code = true) {p : Nat} {e : zIns} (he : code[p]? = some e) : zce h code p e = true := by
  have hlt := (List.getElem?_eq_some_iff.mp he).1
  have := List.all_eq_true.mp hck p (List.mem_range.mpr hlt)
  rw [he] at this
  exact this
/-- THE WALK IS SOUND -/
theorem zgo {l : Launch} {G : zG} {md d : Nat} {h : zHdr} {code : List zIns} {n0 : Nat} {Q : Int → zH → Prop} {QX : Nat → zH → Prop} (hck : zck h code = true) : ∀ (f q : Nat) (L st : List zV) (v : zH) (n : Nat), L.length = hL h → zx l G md d h code n0 Q QX (zJ l G md d h code n0 Q QX) f (code.drop q) L st v n → zJ l G md d h code n0 Q QX q L st v n
  | 0, _, _, _, _, _, _, hs => hs.elim
  | f + 1, q, L, st, v, n, hLL, hs => by
    unfold zx at hs
    by_cases hq : q < code.length
    · have e1 : code.drop q = code[q] :: code.drop (q + 1) := List.drop_eq_getElem_cons hq
      rw [e1] at hs
      refine zstep_ok (List.getElem?_eq_getElem hq) (zck_at hck (List.getElem?_eq_getElem hq)) hLL (fun q2 L2 st2 v2 n2 hl2 hg => ?_) hs
      unfold zcut at hg
      by_cases hq2 : q2 < code.length
      · have e2 : code.drop q2 = code[q2] :: code.drop (q2 + 1) := List.drop_eq_getElem_cons hq2
        rw [e2] at hg
        have hce := zck_at hck (List.getElem?_eq_getElem hq2)
        generalize hE : code[q2] = E at hg hce
        obtain ⟨p0, pc0, cut, rest⟩ := E
        have hp0 : p0 = q2 := by
          unfold zce at hce
          exact Nat.eq_of_beq_eq_true (z_and (z_and (z_and (z_and hce).1).1).1).1
        cases cut with
        | some m =>
          simp only at hg
          subst hp0
          exact zJ_msk m hg
        | none =>
          simp only at hg
          refine zgo hck f q2 L2 st2 v2 n2 hl2 ?_
          rw [e2, hE]
          exact hg
      · rw [List.drop_eq_nil_of_le (by omega)] at hg
        exact hg.elim
    · rw [List.drop_eq_nil_of_le (by omega)] at hs
      exact hs.elim
