/-! A METHOD'S CONTRACT out of its first place -/
def zargs (As : List zV) (nL : Nat) : List zV := As.flatMap (fun q => match q.1 with
  | 1 => [q, (3, 0)]
  | _ => [q]) ++ List.replicate (nL - (As.flatMap (fun q => match q.1 with
  | 1 => [q, (3, 0)]
  | _ => [q])).length) (3, 0)
def zflat (As : List zV) : List zV := As.flatMap (fun q => match q.1 with
  | 1 => [q, (3, 0)]
  | _ => [q])
theorem zflat_1 {x : Int} {As : List zV} : zflat ((1, x) :: As) = (1, x) :: (3, 0) :: zflat As := rfl
theorem zflat_n {t : Nat} {x : Int} {As : List zV} (h : t ≠ 1) : zflat ((t, x) :: As) = (t, x) :: zflat As := by
  unfold zflat
  rw [List.flatMap_cons]
  match t, h with
  | 0, _ => rfl
  | 1, q => exact absurd rfl q
  | k + 2, _ => rfl
theorem zcat2 {G : zG} {x : Int} : (zc G (1, x)).category = 2 := rfl
theorem zflat_sl {G : zG} : ∀ (As : List zV), (∀ q ∈ As, q.1 ≠ 3) → (lg_sl (As.map (zc G))).length = (zflat As).length ∧ ∀ (i t : Nat) (x : Int), (zflat As)[i]? = some (t, x) → t ≠ 3 → (lg_sl (As.map (zc G)))[i]? = some (.val (zc G (t, x)))
  | [], _ => ⟨rfl, fun i t x h => by simp [zflat] at h⟩
  | (t, x) :: As, hA => by
    obtain ⟨h1, h2⟩ := zflat_sl (G := G) As (fun q hq => hA q (List.mem_cons_of_mem _ hq))
    by_cases ht : t = 1
    · subst ht
      have e : lg_sl (((1, x) :: As).map (zc G)) = Slot.val (zc G (1, x)) :: Slot.second :: lg_sl (As.map (zc G)) := rfl
      rw [e, zflat_1]
      refine ⟨by simp [h1], fun i u y hi hu => ?_⟩
      match i with
      | 0 => cases hi; rfl
      | 1 => cases hi; exact absurd rfl hu
      | i + 2 => exact h2 i u y hi hu
    · have e : lg_sl (((t, x) :: As).map (zc G)) = Slot.val (zc G (t, x)) :: lg_sl (As.map (zc G)) := by
        have h7 := zcat1 (G := G) (x := x) ht
        unfold lg_sl
        rw [List.map_cons, List.flatMap_cons, h7]
        rfl
      rw [e, zflat_n ht]
      refine ⟨by simp [h1], fun i u y hi hu => ?_⟩
      match i with
      | 0 => cases hi; rfl
      | i + 1 => exact h2 i u y hi hu
theorem zflat_rg {n : Nat} : ∀ (As : List zV), zStk n As → ∀ (i t : Nat) (x : Int), (zflat As)[i]? = some (t, x) → t ≠ 3 → zRg n t x
  | [], _, i, t, x, h, _ => by simp [zflat] at h
  | (t, x) :: As, hA, i, u, y, hi, hu => by
    obtain ⟨⟨h1, -⟩, h2⟩ := zStk_c.mp hA
    by_cases ht : t = 1
    · subst ht
      rw [zflat_1] at hi
      match i with
      | 0 => cases hi; exact h1
      | 1 => cases hi; exact absurd rfl hu
      | i + 2 => exact zflat_rg As h2 i u y hi hu
    · rw [zflat_n ht] at hi
      match i with
      | 0 => cases hi; exact h1
      | i + 1 => exact zflat_rg As h2 i u y hi hu
theorem zargs_len {As : List zV} {nL : Nat} (h : (zflat As).length ≤ nL) : (zargs As nL).length = nL := by
  show (zflat As ++ List.replicate (nL - (zflat As).length) (3, 0)).length = nL
  simp
  omega
theorem zargs_ok {G : zG} {n nL : Nat} {As : List zV} (hA : zStk n As) (hl : (zflat As).length ≤ nL) : zLs G n ((lg_sl (As.map (zc G)) ++ List.replicate (nL - (lg_sl (As.map (zc G))).length) Slot.unset).toArray) nL (zargs As nL) := by
  obtain ⟨h1, h2⟩ := zflat_sl (G := G) As (fun q hq => (hA q hq).2)
  have h3 := lv_entry (As.map (zc G)) (n := nL) (by rw [h1]; exact hl)
  refine ⟨h3.1, h3.2.1, fun i t x hi ht => ?_⟩
  have hi2 : (zflat As ++ List.replicate (nL - (zflat As).length) (3, 0))[i]? = some (t, x) := hi
  by_cases hlt : i < (zflat As).length
  · rw [List.getElem?_append_left hlt] at hi2
    refine ⟨?_, zflat_rg As hA i t x hi2 ht⟩
    rw [List.getElem?_toArray, List.getElem?_append_left (by rw [h1]; exact hlt)]
    exact h2 i t x hi2 ht
  · rw [List.getElem?_append_right (by omega)] at hi2
    have := List.eq_of_mem_replicate (List.mem_of_getElem? hi2)
    cases this
    exact absurd rfl ht
theorem z_nchar {x : Int} (h1 : 0 ≤ x) (h2 : x ≤ 65535) : narrow .char (.int (Int32.ofInt x)) = .int (Int32.ofInt x) := by
  obtain ⟨n, rfl⟩ : ∃ n : Nat, x = n := ⟨x.toNat, by omega⟩
  exact (pk_charN (q := n) (by omega)).1
theorem z_nbyte {x : Int} (h1 : -128 ≤ x) (h2 : x ≤ 127) : narrow .byte (.int (Int32.ofInt x)) = .int (Int32.ofInt x) := by
  show Value.int (Int32.ofInt x).toInt8.toInt32 = _
  congr 1
  have e : (Int32.ofInt x).toInt8 = Int8.ofInt x := Int32.toInt8_ofInt
  rw [e]
  exact z_i8 h1 h2
/-- a head's answer and type fit -/
def zhok (h : zHdr) : Bool := plainFor (hY h) && decide ((hY h).cls = hO h) && (match hT h, hR h with
  | 0, some .int => true
  | 0, some .char => true
  | 0, some .byte => true
  | 4, some .boolean => true
  | 1, some .long => true
  | 2, some (.object _) => true
  | 2, some (.array _) => true
  | 3, none => true
  | _, _ => false) && (!(hK h) || decide ((hY h).name = "<init>"))
theorem zC_in {l : Launch} {G : zG} {md d : Nat} {h : zHdr} {code : List zIns} {As : List zV} {v : zH} {n : Nat} {Q : Int → zH → Prop} (hok : zhok h = true) (hpc : zpc code 0 = 0) (hl : (zflat As).length ≤ hL h) (k : zJ l G md d h code n Q (fun _ _ => False) 0 (zargs As (hL h)) [] v n) : zC l G md d h As v n Q := by
  unfold zhok at hok
  obtain ⟨hok, hini⟩ := z_and hok
  obtain ⟨hok, hty⟩ := z_and hok
  obtain ⟨hpl, hcls⟩ := z_and hok
  have hcls := of_decide_eq_true hcls
  refine va_MetF (cc := hB h) (maxL := hL h) (ret := hR h) hpl rfl ?_
  intro p e s m args below meth c s₁ B hml hv
  obtain ⟨rfl, hP, hKt, hZt, hStA, hB1⟩ := hv
  have hx := B.exec
  have hb := B.bytes
  have hr := B.returns
  have hts0 := atoms_spec (ws := zWs h) B.pre
  have hts : ∀ w ∈ zws, w.before (As.map (zc G)).toArray s = true := fun w hw => hts0 w (List.mem_cons_of_mem _ hw)
  have hown : s.vm.findClass (hO h) = some m.cls := by rw [← hcls]; exact findClass_of_methodNamed B.named
  have hlocks := B.notSynchronized
  rw [lg_entry_eq]
  have key := k p e (headSpec (zWs h) { frames := d, cells := hMc h, slots := hMs h, locals := 60 * d }).room s m (As.map (zc G)).toArray below meth c (MQ below (zQc G md h n Q) (As.map (zc G)).toArray s (hMc h) (hMs h) (zA G))
    ⟨⟨hx, hb, hml, hown, hts⟩, ⟨hKt, hZt, by have := hP.2.1; omega, hB1⟩, ⟨Nat.le_refl _, Nat.le_refl _, Nat.le_refl _, Nat.le_refl _⟩, fun q => by
      rw [q] at hini
      simp only [Bool.not_true, Bool.false_or] at hini
      exact (name_of_methodNamed B.named B.method).1.trans (of_decide_eq_true hini), ?_, fun H locs ls pc v hq => hq.elim⟩
    s.heap [] _ hP va_S.rf (zargs_ok hStA hl) (fun q hq => by cases hq) (Nat.le_refl _) (Nat.le_add_right _ _) (Nat.le_add_right _ _)
  · rw [Nat.sub_self, Nat.sub_self, hpc] at key
    exact key
  · intro H locs ls pc n' r v' hq hP' hS' hrr hn' hdec hnr
    subst hn'
    have hend : ∀ t : State, t.heap = H → s.WarmedH t.vm → zQc G md h n Q (As.map (zc G)).toArray s (.returned (zRet G (hT h) r)) t := by
      intro t ht hW
      exact ⟨⟨r, v', rfl, hq, by rw [ht]; exact hP', hrr⟩, hS'.F ht⟩
    split at hty
    · rename_i e1 e2
      rw [e1] at hdec hend hnr ⊢
      exact W.zret (ty := .int) hx hb (by rw [hr, e2]) rfl hend hS'.2.2 hdec
    · rename_i e1 e2
      rw [e1] at hdec hend hnr ⊢
      have h9 := hnr (Or.inl rfl)
      rw [e2] at h9
      exact W.zret (ty := .char) hx hb (by rw [hr, e2]) (z_nchar h9.1 h9.2) hend hS'.2.2 hdec
    · rename_i e1 e2
      rw [e1] at hdec hend hnr ⊢
      have h9 := hnr (Or.inl rfl)
      rw [e2] at h9
      exact W.zret (ty := .byte) hx hb (by rw [hr, e2]) (z_nbyte h9.1 h9.2) hend hS'.2.2 hdec
    · rename_i e1 e2
      rw [e1] at hdec hend hnr ⊢
      have h9 := hnr (Or.inr rfl)
      rw [e2] at h9
      exact W.zret (ty := .boolean) hx hb (by rw [hr, e2]) (by rcases h9 with h9 | h9 <;> subst h9 <;> rfl) hend hS'.2.2 hdec
    · rename_i e1 e2
      rw [e1] at hdec hend hrr ⊢
      exact W.lret hx hb (by rw [hr, e2]) hend hS'.2.2 hdec
    · rename_i nm e1 e2
      rw [e1] at hdec hend hrr ⊢
      have e3 : zc G (2, r) = .ref (zad G r) := zc_ref (zRg_ref hrr)
      exact W.aret hx hb (by rw [hr, e2]) (Or.inl ⟨_, rfl⟩) (Or.inr ⟨_, e3⟩) hend hS'.2.2 hdec
    · rename_i nm e1 e2
      rw [e1] at hdec hend hrr ⊢
      have e3 : zc G (2, r) = .ref (zad G r) := zc_ref (zRg_ref hrr)
      exact W.aret hx hb (by rw [hr, e2]) (Or.inr ⟨_, rfl⟩) (Or.inr ⟨_, e3⟩) hend hS'.2.2 hdec
    · rename_i e1 e2
      rw [e1] at hdec hend ⊢
      exact W.vret hx hb (by rw [hr, e2]) hend hS'.2.2 hdec
    · cases hty
/-- a contract weakened in what it promises -/
theorem zC_mono {l : Launch} {G : zG} {md d : Nat} {h : zHdr} {As : List zV} {v : zH} {n : Nat} {Q Q2 : Int → zH → Prop} (hQ : ∀ r v', Q r v' → Q2 r v') (k : zC l G md d h As v n Q) : zC l G md d h As v n Q2 := by
  intro p e ha hc hk s m args below hf happ hP hK
  obtain ⟨t, o, h1, h2, h3, h4⟩ := k p e ha hc hk s m args below hf happ hP hK
  refine ⟨t, o, h1, h2, h3, ?_⟩
  obtain ⟨⟨⟨r, v', g1, g2, g3⟩, g4⟩, g5⟩ := h4
  exact ⟨⟨⟨r, v', g1, hQ r v' g2, g3⟩, g4⟩, g5⟩
