/-! THE REFERENCE: questions E: touches -/
def MTo (v : zH) (W : zWl) (T : zTo) : Prop := v 77 56 = tN T ∧ ∀ k : Int, 0 ≤ k → k < tN T → v 107 k = nmi (wC W) (tC T k) ∧ v 108 k = tH T k ∧ v 109 k = tV T k
theorem MTo_fz {v v' : zH} {W : zWl} {T : zTo} (h : Fz v v') (k : MTo v W T) : MTo v' W T := by
  unfold MTo
  rw [h.2 56 (by omega) (by omega) (by omega) (by omega) (by omega) (by omega), h.1 107 (by omega), h.1 108 (by omega), h.1 109 (by omega)]
  exact k
theorem sLike_s {W : zWl} {S : zSk} {c : zCo} {T : zTo} {n : Nat} : sLike W S c T (n + 1) = (sLike W S c T n && tAl T n (cW (sSt W (sSn S) (kR S) c n))) := by
  show (_ && tAl T (n : Int) (cW (sSt W (sSn S) (kR S) c (n : Int).toNat))) = _
  rw [Int.toNat_natCast]
  rfl
theorem sLike_f {W : zWl} {S : zSk} {c : zCo} {T : zTo} {n : Nat} (h : ¬ sLike W S c T n = true) : ∀ m : Nat, ¬ sLike W S c T (n + m) = true
  | 0 => h
  | m + 1 => by
    rw [← Nat.add_assoc, sLike_s]
    have ih := sLike_f h m
    rw [Bool.not_eq_true] at ih
    rw [ih, Bool.false_and]
    decide
section
variable {l : Launch} {G : zG} {d : Nat} {v : zH} {Q : Int → zH → Prop} {W : zWl} {c : zCo} {S : zSk} {T : zTo}
theorem ag_13 {n : Nat} {v0 : zH} {QX : Nat → zH → Prop} (hW : Wok W) (hT : Tok W T) (hS : MTo v W T) (hH : MH v0 v W c S n) (hn : n ≤ 100) (hh : cH c ≤ 900000) (K : ∀ v' : zH, MH v0 v' W c S (n + 1) → zJ l G 1 (d + 7) h_M_agrees k_M_agrees 115 Q QX 6 [(2, 77), (0, if tAl T n (cW (sSt W (sSn S) (kR S) c n)) = true then 1 else 0), (0, (n : Int) + 1), (3, 0)] [] v' 115) :
    ∀ (m j : Nat), (j : Int) + m = tN T → zJ l G 1 (d + 7) h_M_agrees k_M_agrees 115 Q QX 13 [(2, 77), (0, if zal (tAl1 T n (cW (sSt W (sSn S) (kR S) c n))) j = true then 1 else 0), (0, (n : Int)), (0, (j : Int))] [] v 115
  | m, j, hj => by
    have hb := hT.1
    match m, hj with
    | 0, hj =>
      have e : j = (tN T).toNat := by omega
      have e2 : zal (tAl1 T n (cW (sSt W (sSn S) (kR S) c n))) j = tAl T n (cW (sSt W (sSn S) (kR S) c n)) := by rw [e]; rfl
      rw [e2]
      generalize (if tAl T n (cW (sSt W (sSn S) (kR S) c n)) = true then (1 : Int) else 0) = B at K ⊢
      refine zgo ck_M_agrees 300 13 _ _ _ _ rfl (sg_M_agrees_13 ?_)
      try simp (disch := omega) only [zup_e, zup_ak, zup_j, Int.zero_add, Int.reduceAdd, mz78, mz79, mz80, mz81, mz82, mz83, mz84, mz85, mz86, mz87, mz88, mz89, mz90, mz91, mz92, mz93, mz94, mz95, mz96, mz97, mz98, mz99, mz100, mz101, mz102, mz103, mz104, mz105, mz106, mz107, mz108, mz109, mz110, mz111, mz112, mz113, hS.1]
      refine ⟨by first | decide | omega | contradiction | exact absurd trivial (by assumption), ⟨fun q1 => ⟨by first | decide | omega | contradiction | exact absurd trivial (by assumption), ?_⟩, fun q2 => ⟨fun q3 => ⟨⟨by first | decide | omega | contradiction | exact absurd trivial (by assumption), by first | decide | omega | contradiction | exact absurd trivial (by assumption)⟩, ?_⟩, fun q4 => ⟨by first | decide | omega | contradiction | exact absurd trivial (by assumption), by first | decide | omega | contradiction | exact absurd trivial (by assumption), ⟨by first | decide | omega | contradiction | exact absurd trivial (by assumption), by first | decide | omega | contradiction | exact absurd trivial (by assumption)⟩, ⟨fun q5 => ⟨⟨by first | decide | omega | contradiction | exact absurd trivial (by assumption), by first | decide | omega | contradiction | exact absurd trivial (by assumption)⟩, ?_⟩, fun q6 => ⟨by first | decide | omega | contradiction | exact absurd trivial (by assumption), by first | decide | omega | contradiction | exact absurd trivial (by assumption), by first | decide | omega | contradiction | exact absurd trivial (by assumption), ⟨by first | decide | omega | contradiction | exact absurd trivial (by assumption), by first | decide | omega | contradiction | exact absurd trivial (by assumption)⟩, by first | decide | omega | contradiction | exact absurd trivial (by assumption), ⟨by first | decide | omega | contradiction | exact absurd trivial (by assumption), by first | decide | omega | contradiction | exact absurd trivial (by assumption)⟩, by first | decide | omega | contradiction | exact absurd trivial (by assumption), by first | decide | omega | contradiction | exact absurd trivial (by assumption), ⟨by first | decide | omega | contradiction | exact absurd trivial (by assumption), by first | decide | omega | contradiction | exact absurd trivial (by assumption)⟩, ⟨fun q7 => ⟨⟨by first | decide | omega | contradiction | exact absurd trivial (by assumption), by first | decide | omega | contradiction | exact absurd trivial (by assumption)⟩, ?_⟩, fun q8 => ⟨⟨by first | decide | omega | contradiction | exact absurd trivial (by assumption), by first | decide | omega | contradiction | exact absurd trivial (by assumption)⟩, ?_⟩⟩⟩⟩⟩⟩⟩⟩
      try (any_goals (exfalso; first | omega | exact absurd trivial (by assumption)))
      refine m_ps hH (by omega) (fun v1 f1 f2 f3 => ?_)
      refine ⟨⟨by first | decide | omega | contradiction | exact absurd trivial (by assumption), by first | decide | omega | contradiction | exact absurd trivial (by assumption)⟩, ?_⟩
      exact K v1 f1
    | m + 1, hj =>
      have g := ag_13 (QX := QX) hW hT hS hH hn hh K m (j + 1) (by omega)
      have ez : zal (tAl1 T n (cW (sSt W (sSn S) (kR S) c n))) (j + 1) = (zal (tAl1 T n (cW (sSt W (sSn S) (kR S) c n))) j && tAl1 T n (cW (sSt W (sSn S) (kR S) c n)) j) := rfl
      rw [ez] at g
      obtain ⟨k1, k2, k3⟩ := hT.2 j (by omega) (by omega)
      obtain ⟨e1, e2, e3⟩ := hS.2 j (by omega) (by omega)
      have hn := nm36 hW k1
      have e97 : v 97 (nmi (wC W) (tC T j)) = cW (sSt W (sSn S) (kR S) c n) (tC T j) := by rw [(hH.2.1.2.2.2.1.2.1 _ hn.1).1, hn.2.1]
      generalize cW (sSt W (sSn S) (kR S) c n) = f at g e97 ⊢
      cases hz : zal (tAl1 T n f) j with
      | false =>
        rw [hz] at g
        rw [if_neg (by decide)]
        rw [Bool.false_and, if_neg (by decide)] at g
        refine zgo ck_M_agrees 300 13 _ _ _ _ rfl (sg_M_agrees_13 ?_)
        try simp (disch := omega) only [zup_e, zup_ak, zup_j, Int.zero_add, Int.reduceAdd, mz78, mz79, mz80, mz81, mz82, mz83, mz84, mz85, mz86, mz87, mz88, mz89, mz90, mz91, mz92, mz93, mz94, mz95, mz96, mz97, mz98, mz99, mz100, mz101, mz102, mz103, mz104, mz105, mz106, mz107, mz108, mz109, mz110, mz111, mz112, mz113, hS.1]
        refine ⟨by first | decide | omega | contradiction | exact absurd trivial (by assumption), ⟨fun q1 => ⟨by first | decide | omega | contradiction | exact absurd trivial (by assumption), ?_⟩, fun q2 => ⟨fun q3 => ⟨⟨by first | decide | omega | contradiction | exact absurd trivial (by assumption), by first | decide | omega | contradiction | exact absurd trivial (by assumption)⟩, ?_⟩, fun q4 => ⟨by first | decide | omega | contradiction | exact absurd trivial (by assumption), by first | decide | omega | contradiction | exact absurd trivial (by assumption), ⟨by first | decide | omega | contradiction | exact absurd trivial (by assumption), by first | decide | omega | contradiction | exact absurd trivial (by assumption)⟩, ⟨fun q5 => ⟨⟨by first | decide | omega | contradiction | exact absurd trivial (by assumption), by first | decide | omega | contradiction | exact absurd trivial (by assumption)⟩, ?_⟩, fun q6 => ⟨by first | decide | omega | contradiction | exact absurd trivial (by assumption), by first | decide | omega | contradiction | exact absurd trivial (by assumption), by first | decide | omega | contradiction | exact absurd trivial (by assumption), ⟨by first | decide | omega | contradiction | exact absurd trivial (by assumption), by first | decide | omega | contradiction | exact absurd trivial (by assumption)⟩, by first | decide | omega | contradiction | exact absurd trivial (by assumption), ⟨by first | decide | omega | contradiction | exact absurd trivial (by assumption), by first | decide | omega | contradiction | exact absurd trivial (by assumption)⟩, by first | decide | omega | contradiction | exact absurd trivial (by assumption), by first | decide | omega | contradiction | exact absurd trivial (by assumption), ⟨by first | decide | omega | contradiction | exact absurd trivial (by assumption), by first | decide | omega | contradiction | exact absurd trivial (by assumption)⟩, ⟨fun q7 => ⟨⟨by first | decide | omega | contradiction | exact absurd trivial (by assumption), by first | decide | omega | contradiction | exact absurd trivial (by assumption)⟩, ?_⟩, fun q8 => ⟨⟨by first | decide | omega | contradiction | exact absurd trivial (by assumption), by first | decide | omega | contradiction | exact absurd trivial (by assumption)⟩, ?_⟩⟩⟩⟩⟩⟩⟩⟩
        try (any_goals (exfalso; first | omega | exact absurd trivial (by assumption)))
        exact g
      | true =>
        rw [hz] at g
        rw [if_pos rfl]
        rw [Bool.true_and] at g
        by_cases h1 : tH T j = n
        · by_cases h2 : f (tC T j) = tV T j
          · have et : tAl1 T n f j = true := by unfold tAl1; simp [h2]
            rw [et, if_pos rfl] at g
            refine zgo ck_M_agrees 300 13 _ _ _ _ rfl (sg_M_agrees_13 ?_)
            try simp (disch := omega) only [zup_e, zup_ak, zup_j, Int.zero_add, Int.reduceAdd, mz78, mz79, mz80, mz81, mz82, mz83, mz84, mz85, mz86, mz87, mz88, mz89, mz90, mz91, mz92, mz93, mz94, mz95, mz96, mz97, mz98, mz99, mz100, mz101, mz102, mz103, mz104, mz105, mz106, mz107, mz108, mz109, mz110, mz111, mz112, mz113, hS.1, e1, e2, e3, e97]
            refine ⟨by first | decide | omega | contradiction | exact absurd trivial (by assumption), ⟨fun q1 => ⟨by first | decide | omega | contradiction | exact absurd trivial (by assumption), ?_⟩, fun q2 => ⟨fun q3 => ⟨⟨by first | decide | omega | contradiction | exact absurd trivial (by assumption), by first | decide | omega | contradiction | exact absurd trivial (by assumption)⟩, ?_⟩, fun q4 => ⟨by first | decide | omega | contradiction | exact absurd trivial (by assumption), by first | decide | omega | contradiction | exact absurd trivial (by assumption), ⟨by first | decide | omega | contradiction | exact absurd trivial (by assumption), by first | decide | omega | contradiction | exact absurd trivial (by assumption)⟩, ⟨fun q5 => ⟨⟨by first | decide | omega | contradiction | exact absurd trivial (by assumption), by first | decide | omega | contradiction | exact absurd trivial (by assumption)⟩, ?_⟩, fun q6 => ⟨by first | decide | omega | contradiction | exact absurd trivial (by assumption), by first | decide | omega | contradiction | exact absurd trivial (by assumption), by first | decide | omega | contradiction | exact absurd trivial (by assumption), ⟨by first | decide | omega | contradiction | exact absurd trivial (by assumption), by first | decide | omega | contradiction | exact absurd trivial (by assumption)⟩, by first | decide | omega | contradiction | exact absurd trivial (by assumption), ⟨by first | decide | omega | contradiction | exact absurd trivial (by assumption), by first | decide | omega | contradiction | exact absurd trivial (by assumption)⟩, by first | decide | omega | contradiction | exact absurd trivial (by assumption), by first | decide | omega | contradiction | exact absurd trivial (by assumption), ⟨by first | decide | omega | contradiction | exact absurd trivial (by assumption), by first | decide | omega | contradiction | exact absurd trivial (by assumption)⟩, ⟨fun q7 => ⟨⟨by first | decide | omega | contradiction | exact absurd trivial (by assumption), by first | decide | omega | contradiction | exact absurd trivial (by assumption)⟩, ?_⟩, fun q8 => ⟨⟨by first | decide | omega | contradiction | exact absurd trivial (by assumption), by first | decide | omega | contradiction | exact absurd trivial (by assumption)⟩, ?_⟩⟩⟩⟩⟩⟩⟩⟩
            try (any_goals (exfalso; first | omega | exact absurd trivial (by assumption)))
            exact g
          · have et : tAl1 T n f j = false := by unfold tAl1; simp [h1, h2]
            rw [et, if_neg (by decide)] at g
            refine zgo ck_M_agrees 300 13 _ _ _ _ rfl (sg_M_agrees_13 ?_)
            try simp (disch := omega) only [zup_e, zup_ak, zup_j, Int.zero_add, Int.reduceAdd, mz78, mz79, mz80, mz81, mz82, mz83, mz84, mz85, mz86, mz87, mz88, mz89, mz90, mz91, mz92, mz93, mz94, mz95, mz96, mz97, mz98, mz99, mz100, mz101, mz102, mz103, mz104, mz105, mz106, mz107, mz108, mz109, mz110, mz111, mz112, mz113, hS.1, e1, e2, e3, e97]
            refine ⟨by first | decide | omega | contradiction | exact absurd trivial (by assumption), ⟨fun q1 => ⟨by first | decide | omega | contradiction | exact absurd trivial (by assumption), ?_⟩, fun q2 => ⟨fun q3 => ⟨⟨by first | decide | omega | contradiction | exact absurd trivial (by assumption), by first | decide | omega | contradiction | exact absurd trivial (by assumption)⟩, ?_⟩, fun q4 => ⟨by first | decide | omega | contradiction | exact absurd trivial (by assumption), by first | decide | omega | contradiction | exact absurd trivial (by assumption), ⟨by first | decide | omega | contradiction | exact absurd trivial (by assumption), by first | decide | omega | contradiction | exact absurd trivial (by assumption)⟩, ⟨fun q5 => ⟨⟨by first | decide | omega | contradiction | exact absurd trivial (by assumption), by first | decide | omega | contradiction | exact absurd trivial (by assumption)⟩, ?_⟩, fun q6 => ⟨by first | decide | omega | contradiction | exact absurd trivial (by assumption), by first | decide | omega | contradiction | exact absurd trivial (by assumption), by first | decide | omega | contradiction | exact absurd trivial (by assumption), ⟨by first | decide | omega | contradiction | exact absurd trivial (by assumption), by first | decide | omega | contradiction | exact absurd trivial (by assumption)⟩, by first | decide | omega | contradiction | exact absurd trivial (by assumption), ⟨by first | decide | omega | contradiction | exact absurd trivial (by assumption), by first | decide | omega | contradiction | exact absurd trivial (by assumption)⟩, by first | decide | omega | contradiction | exact absurd trivial (by assumption), by first | decide | omega | contradiction | exact absurd trivial (by assumption), ⟨by first | decide | omega | contradiction | exact absurd trivial (by assumption), by first | decide | omega | contradiction | exact absurd trivial (by assumption)⟩, ⟨fun q7 => ⟨⟨by first | decide | omega | contradiction | exact absurd trivial (by assumption), by first | decide | omega | contradiction | exact absurd trivial (by assumption)⟩, ?_⟩, fun q8 => ⟨⟨by first | decide | omega | contradiction | exact absurd trivial (by assumption), by first | decide | omega | contradiction | exact absurd trivial (by assumption)⟩, ?_⟩⟩⟩⟩⟩⟩⟩⟩
            try (any_goals (exfalso; first | omega | exact absurd trivial (by assumption)))
            exact g
        · have et : tAl1 T n f j = true := by unfold tAl1; simp [h1]
          rw [et, if_pos rfl] at g
          refine zgo ck_M_agrees 300 13 _ _ _ _ rfl (sg_M_agrees_13 ?_)
          try simp (disch := omega) only [zup_e, zup_ak, zup_j, Int.zero_add, Int.reduceAdd, mz78, mz79, mz80, mz81, mz82, mz83, mz84, mz85, mz86, mz87, mz88, mz89, mz90, mz91, mz92, mz93, mz94, mz95, mz96, mz97, mz98, mz99, mz100, mz101, mz102, mz103, mz104, mz105, mz106, mz107, mz108, mz109, mz110, mz111, mz112, mz113, hS.1, e1, e2, e3, e97]
          refine ⟨by first | decide | omega | contradiction | exact absurd trivial (by assumption), ⟨fun q1 => ⟨by first | decide | omega | contradiction | exact absurd trivial (by assumption), ?_⟩, fun q2 => ⟨fun q3 => ⟨⟨by first | decide | omega | contradiction | exact absurd trivial (by assumption), by first | decide | omega | contradiction | exact absurd trivial (by assumption)⟩, ?_⟩, fun q4 => ⟨by first | decide | omega | contradiction | exact absurd trivial (by assumption), by first | decide | omega | contradiction | exact absurd trivial (by assumption), ⟨by first | decide | omega | contradiction | exact absurd trivial (by assumption), by first | decide | omega | contradiction | exact absurd trivial (by assumption)⟩, ⟨fun q5 => ⟨⟨by first | decide | omega | contradiction | exact absurd trivial (by assumption), by first | decide | omega | contradiction | exact absurd trivial (by assumption)⟩, ?_⟩, fun q6 => ⟨by first | decide | omega | contradiction | exact absurd trivial (by assumption), by first | decide | omega | contradiction | exact absurd trivial (by assumption), by first | decide | omega | contradiction | exact absurd trivial (by assumption), ⟨by first | decide | omega | contradiction | exact absurd trivial (by assumption), by first | decide | omega | contradiction | exact absurd trivial (by assumption)⟩, by first | decide | omega | contradiction | exact absurd trivial (by assumption), ⟨by first | decide | omega | contradiction | exact absurd trivial (by assumption), by first | decide | omega | contradiction | exact absurd trivial (by assumption)⟩, by first | decide | omega | contradiction | exact absurd trivial (by assumption), by first | decide | omega | contradiction | exact absurd trivial (by assumption), ⟨by first | decide | omega | contradiction | exact absurd trivial (by assumption), by first | decide | omega | contradiction | exact absurd trivial (by assumption)⟩, ⟨fun q7 => ⟨⟨by first | decide | omega | contradiction | exact absurd trivial (by assumption), by first | decide | omega | contradiction | exact absurd trivial (by assumption)⟩, ?_⟩, fun q8 => ⟨⟨by first | decide | omega | contradiction | exact absurd trivial (by assumption), by first | decide | omega | contradiction | exact absurd trivial (by assumption)⟩, ?_⟩⟩⟩⟩⟩⟩⟩⟩
          try (any_goals (exfalso; first | omega | exact absurd trivial (by assumption)))
          exact g
theorem ag_6 {v0 : zH} {QX : Nat → zH → Prop} (hQ : QM v0 W c S) (hT : Tok W T) (hS : MTo v0 W T) (K : ∀ v' : zH, Fz v0 v' → QM v' W c S → Q (if sLike W S c T 49 = true then 1 else 0) v') :
    ∀ (m i : Nat) {v : zH}, i + m = 49 → MH v0 v W c S i → zJ l G 1 (d + 7) h_M_agrees k_M_agrees 115 Q QX 6 [(2, 77), (0, if sLike W S c T i = true then 1 else 0), (0, (i : Int)), (3, 0)] [] v 115
  | m, i, v, hi, hH => by
    obtain ⟨hW, hM0, hc, -⟩ := id hQ.1
    have hh := hQ.2.2
    match m, hi with
    | 0, hi =>
      have e : i = 49 := by omega
      subst e
      by_cases hl : sLike W S c T 49 = true
      · rw [if_pos hl] at K ⊢
        refine zgo ck_M_agrees 300 6 _ _ _ _ rfl (sg_M_agrees_6 ?_)
        try simp (disch := omega) only [zup_e, zup_ak, zup_j, Int.zero_add, Int.reduceAdd, mz78, mz79, mz80, mz81, mz82, mz83, mz84, mz85, mz86, mz87, mz88, mz89, mz90, mz91, mz92, mz93, mz94, mz95, mz96, mz97, mz98, mz99, mz100, mz101, mz102, mz103, mz104, mz105, mz106, mz107, mz108, mz109, mz110, mz111, mz112, mz113]
        refine ⟨fun q1 => ⟨by first | decide | omega | contradiction | exact absurd trivial (by assumption), ?_⟩, fun q2 => ⟨fun q3 => ⟨by first | decide | omega | contradiction | exact absurd trivial (by assumption), ?_⟩, fun q4 => ?_⟩⟩
        try (any_goals (exfalso; first | omega | exact absurd trivial (by assumption)))
        refine m_qtb hQ hH (fun v1 y1 y2 _ => ?_)
        refine ⟨by first | decide | omega | contradiction | exact absurd trivial (by assumption), ?_⟩
        exact K v1 y1 y2
      · rw [if_neg hl] at K ⊢
        refine zgo ck_M_agrees 300 6 _ _ _ _ rfl (sg_M_agrees_6 ?_)
        try simp (disch := omega) only [zup_e, zup_ak, zup_j, Int.zero_add, Int.reduceAdd, mz78, mz79, mz80, mz81, mz82, mz83, mz84, mz85, mz86, mz87, mz88, mz89, mz90, mz91, mz92, mz93, mz94, mz95, mz96, mz97, mz98, mz99, mz100, mz101, mz102, mz103, mz104, mz105, mz106, mz107, mz108, mz109, mz110, mz111, mz112, mz113]
        refine ⟨fun q1 => ⟨by first | decide | omega | contradiction | exact absurd trivial (by assumption), ?_⟩, fun q2 => ⟨fun q3 => ⟨by first | decide | omega | contradiction | exact absurd trivial (by assumption), ?_⟩, fun q4 => ?_⟩⟩
        try (any_goals (exfalso; first | omega | exact absurd trivial (by assumption)))
        refine m_qtb hQ hH (fun v1 y1 y2 _ => ?_)
        refine ⟨by first | decide | omega | contradiction | exact absurd trivial (by assumption), ?_⟩
        exact K v1 y1 y2
    | m + 1, hi =>
      by_cases hl : sLike W S c T i = true
      · have g := fun {v : zH} => ag_6 (v := v) (QX := QX) hQ hT hS K m (i + 1) (by omega)
        rw [sLike_s, hl, Bool.true_and] at g
        rw [if_pos hl]
        refine zgo ck_M_agrees 300 6 _ _ _ _ rfl (sg_M_agrees_6 ?_)
        try simp (disch := omega) only [zup_e, zup_ak, zup_j, Int.zero_add, Int.reduceAdd, mz78, mz79, mz80, mz81, mz82, mz83, mz84, mz85, mz86, mz87, mz88, mz89, mz90, mz91, mz92, mz93, mz94, mz95, mz96, mz97, mz98, mz99, mz100, mz101, mz102, mz103, mz104, mz105, mz106, mz107, mz108, mz109, mz110, mz111, mz112, mz113]
        refine ⟨fun q1 => ⟨by first | decide | omega | contradiction | exact absurd trivial (by assumption), ?_⟩, fun q2 => ⟨fun q3 => ⟨by first | decide | omega | contradiction | exact absurd trivial (by assumption), ?_⟩, fun q4 => ?_⟩⟩
        try (any_goals (exfalso; first | omega | exact absurd trivial (by assumption)))
        exact ag_13 hW hT (MTo_fz hH.1 hS) hH (by omega) hh (fun v1 f1 => g f1) (tN T).toNat 0 (by have := hT.1; omega)
      · have h2 := sLike_f hl (m + 1)
        rw [hi] at h2
        rw [if_neg h2] at K
        rw [if_neg hl]
        refine zgo ck_M_agrees 300 6 _ _ _ _ rfl (sg_M_agrees_6 ?_)
        try simp (disch := omega) only [zup_e, zup_ak, zup_j, Int.zero_add, Int.reduceAdd, mz78, mz79, mz80, mz81, mz82, mz83, mz84, mz85, mz86, mz87, mz88, mz89, mz90, mz91, mz92, mz93, mz94, mz95, mz96, mz97, mz98, mz99, mz100, mz101, mz102, mz103, mz104, mz105, mz106, mz107, mz108, mz109, mz110, mz111, mz112, mz113]
        refine ⟨fun q1 => ⟨by first | decide | omega | contradiction | exact absurd trivial (by assumption), ?_⟩, fun q2 => ⟨fun q3 => ⟨by first | decide | omega | contradiction | exact absurd trivial (by assumption), ?_⟩, fun q4 => ?_⟩⟩
        try (any_goals (exfalso; first | omega | exact absurd trivial (by assumption)))
        refine m_qtb hQ hH (fun v1 y1 y2 _ => ?_)
        refine ⟨by first | decide | omega | contradiction | exact absurd trivial (by assumption), ?_⟩
        exact K v1 y1 y2
theorem c_M_agrees (hQ : QM v W c S) (hT : Tok W T) (hS : MTo v W T) (K : ∀ v' : zH, Fz v v' → QM v' W c S → Q (if sLike W S c T 49 = true then 1 else 0) v') : zC l G 1 (d + 7) h_M_agrees [(2, 77)] v 115 Q := by
  refine zC_at ok_M_agrees ck_M_agrees rfl rfl (sg_M_agrees_0 ?_)
  try simp (disch := omega) only [zup_e, zup_ak, zup_j, Int.zero_add, Int.reduceAdd, mz78, mz79, mz80, mz81, mz82, mz83, mz84, mz85, mz86, mz87, mz88, mz89, mz90, mz91, mz92, mz93, mz94, mz95, mz96, mz97, mz98, mz99, mz100, mz101, mz102, mz103, mz104, mz105, mz106, mz107, mz108, mz109, mz110, mz111, mz112, mz113]
  refine ⟨by first | decide | omega | contradiction | exact absurd trivial (by assumption), ?_⟩
  refine m_pa hQ.1 (fun v1 g1 => ?_)
  exact ag_6 hQ hT hS K 49 0 (by omega) g1
theorem sFit_n {a : Int} : ∀ i : Nat, i ≤ 24 → ∃ t : Nat, t < 2 ^ 24 ∧ sFit W S c T a i = t
  | 0, _ => ⟨0, by decide, rfl⟩
  | i + 1, h => by
    obtain ⟨t, t1, t2⟩ := sFit_n (a := a) i (by omega)
    have es : sFit W S c T a (i + 1) = if sLike W S (sChg W c a i) T 49 = true then zor (sFit W S c T a i) (zshl 1 i) else sFit W S c T a i := rfl
    rw [es]
    split
    · rw [t2, zor_bit t1 (by omega)]
      exact ⟨_, or_lt t1 (by omega), rfl⟩
    · exact ⟨t, t1, t2⟩
theorem fim_4 {a : Int} {v0 : zH} {QX : Nat → zH → Prop} (hT : Tok W T) (ha : isc (wR W) (wC W) a = true) (K : ∀ v' : zH, Fz v0 v' → QM v' W c S → Q (sFit W S c T (ixn (wC W) a) (wS W).toNat) v') :
    ∀ (m i : Nat) {v : zH}, (i : Int) + m = wS W → Fz v0 v → QM v W c S → MTo v W T → zJ l G 1 (d + 8) h_M_fitsOf k_M_fitsOf 115 Q QX 4 [(2, 77), (0, a), (0, sFit W S c T (ixn (wC W) a) i), (0, (i : Int)), (3, 0), (3, 0)] [] v 115
  | m, i, v, hi, hF, hQ, hS => by
    obtain ⟨hW, hM, hc, -⟩ := id hQ.1
    have h4 := hW.2.2.2.2.2.2.1
    match m, hi with
    | 0, hi =>
      have e : i = (wS W).toNat := by omega
      have K := K v hF hQ
      rw [← e] at K
      refine zgo ck_M_fitsOf 300 4 _ _ _ _ rfl (sg_M_fitsOf_4 ?_)
      try simp (disch := omega) only [zup_e, zup_ak, zup_j, Int.zero_add, Int.reduceAdd, mz78, mz79, mz80, mz81, mz82, mz83, mz84, mz85, mz86, mz87, mz88, mz89, mz90, mz91, mz92, mz93, mz94, mz95, mz96, mz97, mz98, mz99, mz100, mz101, mz102, mz103, mz104, mz105, mz106, mz107, mz108, mz109, mz110, mz111, mz112, mz113, hM.1]
      refine ⟨by first | decide | omega | contradiction | exact absurd trivial (by assumption), ⟨fun q1 => ?_, fun q2 => ⟨by first | decide | omega | contradiction | exact absurd trivial (by assumption), ?_⟩⟩⟩
      try (any_goals (exfalso; first | omega | exact absurd trivial (by assumption)))
      exact K
    | m + 1, hi =>
      have g := fun {v : zH} => fim_4 (v := v) (QX := QX) hT ha K m (i + 1) (by omega)
      have es : sFit W S c T (ixn (wC W) a) (i + 1) = if sLike W S (sChg W c (ixn (wC W) a) i) T 49 = true then zor (sFit W S c T (ixn (wC W) a) i) (zshl 1 i) else sFit W S c T (ixn (wC W) a) i := rfl
      rw [es] at g
      obtain ⟨t, t1, t2⟩ := sFit_n (W := W) (S := S) (c := c) (T := T) (a := ixn (wC W) a) i (by omega)
      have e0 : zor (sFit W S c T (ixn (wC W) a) i) 0 = sFit W S c T (ixn (wC W) a) i := by
        rw [t2]
        have := zor_n (a := t) (b := 0) (by omega) (by omega)
        rw [Nat.or_zero] at this
        exact this
      refine zgo ck_M_fitsOf 300 4 _ _ _ _ rfl (sg_M_fitsOf_4 ?_)
      try simp (disch := omega) only [zup_e, zup_ak, zup_j, Int.zero_add, Int.reduceAdd, mz78, mz79, mz80, mz81, mz82, mz83, mz84, mz85, mz86, mz87, mz88, mz89, mz90, mz91, mz92, mz93, mz94, mz95, mz96, mz97, mz98, mz99, mz100, mz101, mz102, mz103, mz104, mz105, mz106, mz107, mz108, mz109, mz110, mz111, mz112, mz113, hM.1]
      refine ⟨by first | decide | omega | contradiction | exact absurd trivial (by assumption), ⟨fun q1 => ?_, fun q2 => ⟨by first | decide | omega | contradiction | exact absurd trivial (by assumption), ?_⟩⟩⟩
      try (any_goals (exfalso; first | omega | exact absurd trivial (by assumption)))
      refine c_M_lay hQ ha (s := (i : Int)) (by omega) (fun v1 f1 f2 f3 f4 f5 => ?_)
      refine ⟨by first | decide | omega | contradiction | exact absurd trivial (by assumption), by first | decide | omega | contradiction | exact absurd trivial (by assumption), by first | decide | omega | contradiction | exact absurd trivial (by assumption), ?_⟩
      try (any_goals (exfalso; first | omega | exact absurd trivial (by assumption)))
      refine c_M_agrees f5 hT (MTo_fz f1 hS) (fun v2 g1 g2 => ?_)
      have fin : ∀ v3 : zH, (∀ b : Int, b ≠ 96 → b ≠ 97 → v3 b = v2 b) → Fz v v3 := fun v3 e1 => Fz_tr f1 (Fz_tr g1 ⟨fun b q => e1 b (by omega) (by omega), fun k _ _ _ _ _ _ => by rw [e1 77 (by omega) (by omega)]⟩)
      show _
      simp only [f2, f3]
      by_cases hl : sLike W S (sChg W c (ixn (wC W) a) i) T 49 = true
      · rw [if_pos hl] at g
        rw [if_pos hl]
        refine ⟨fun q1 => ⟨by first | decide | omega | contradiction | exact absurd trivial (by assumption), ?_⟩, fun q2 => ⟨by first | decide | omega | contradiction | exact absurd trivial (by assumption), ?_⟩⟩
        try (any_goals (exfalso; first | omega | exact absurd trivial (by assumption)))
        refine c_M_layBack hc g2 ha (fun v3 e1 e2 => ?_)
        have k0 := g (v := v3) (Fz_tr hF (fin v3 e1)) e2 (MTo_fz (fin v3 e1) hS)
        refine ⟨⟨by first | decide | omega | contradiction | exact absurd trivial (by assumption), by first | decide | omega | contradiction | exact absurd trivial (by assumption)⟩, ?_⟩
        exact k0
      · rw [if_neg hl] at g
        rw [if_neg hl]
        refine ⟨fun q1 => ⟨by first | decide | omega | contradiction | exact absurd trivial (by assumption), ?_⟩, fun q2 => ⟨by first | decide | omega | contradiction | exact absurd trivial (by assumption), ?_⟩⟩
        try (any_goals (exfalso; first | omega | exact absurd trivial (by assumption)))
        refine c_M_layBack hc g2 ha (fun v3 e1 e2 => ?_)
        have k0 := g (v := v3) (Fz_tr hF (fin v3 e1)) e2 (MTo_fz (fin v3 e1) hS)
        rw [e0]
        refine ⟨⟨by first | decide | omega | contradiction | exact absurd trivial (by assumption), by first | decide | omega | contradiction | exact absurd trivial (by assumption)⟩, ?_⟩
        exact k0
theorem c_M_fitsOf {a : Int} (hQ : QM v W c S) (hT : Tok W T) (hS : MTo v W T) (ha : isc (wR W) (wC W) a = true) (K : ∀ v' : zH, Fz v v' → QM v' W c S → Q (sFit W S c T (ixn (wC W) a) (wS W).toNat) v') : zC l G 1 (d + 8) h_M_fitsOf [(2, 77), (0, a)] v 115 Q := by
  have h4 := hQ.1.1.2.2.2.2.2.2.1
  refine zC_at ok_M_fitsOf ck_M_fitsOf rfl rfl (sg_M_fitsOf_0 ?_)
  try simp (disch := omega) only [zup_e, zup_ak, zup_j, Int.zero_add, Int.reduceAdd, mz78, mz79, mz80, mz81, mz82, mz83, mz84, mz85, mz86, mz87, mz88, mz89, mz90, mz91, mz92, mz93, mz94, mz95, mz96, mz97, mz98, mz99, mz100, mz101, mz102, mz103, mz104, mz105, mz106, mz107, mz108, mz109, mz110, mz111, mz112, mz113]
  exact fim_4 hT ha K (wS W).toNat 0 (by omega) Fz_rf hQ hS
theorem c_M_fits {a : Int} (hQ : QM v W c S) (hT : Tok W T) (hS : MTo v W T) (K : ∀ v' : zH, Fz v v' → QM v' W c S → Q (aFits W S c T a) v') : zC l G 1 (d + 9) h_M_fits [(2, 77), (0, a)] v 115 Q := by
  have hM := hQ.1.2.1
  unfold aFits at K
  refine zC_at ok_M_fits ck_M_fits rfl rfl (sg_M_fits_0 ?_)
  try simp (disch := omega) only [zup_e, zup_ak, zup_j, Int.zero_add, Int.reduceAdd, mz78, mz79, mz80, mz81, mz82, mz83, mz84, mz85, mz86, mz87, mz88, mz89, mz90, mz91, mz92, mz93, mz94, mz95, mz96, mz97, mz98, mz99, mz100, mz101, mz102, mz103, mz104, mz105, mz106, mz107, mz108, mz109, mz110, mz111, mz112, mz113]
  refine ⟨by first | decide | omega | contradiction | exact absurd trivial (by assumption), ?_⟩
  try (any_goals (exfalso; first | omega | exact absurd trivial (by assumption)))
  refine m_cell hM ?_
  by_cases ha : isc (wR W) (wC W) a = true
  rotate_left
  · rw [if_neg ha]
    rw [if_neg ha] at K
    refine ⟨fun q1 => ?_, fun q2 => ⟨by first | decide | omega | contradiction | exact absurd trivial (by assumption), ?_⟩⟩
    try (any_goals (exfalso; first | omega | exact absurd trivial (by assumption)))
    exact K v Fz_rf hQ
  rw [if_pos ha]
  rw [if_pos ha] at K
  refine ⟨fun q1 => ?_, fun q2 => ⟨by first | decide | omega | contradiction | exact absurd trivial (by assumption), ?_⟩⟩
  try (any_goals (exfalso; first | omega | exact absurd trivial (by assumption)))
  refine c_M_fitsOf hQ hT hS ha (fun v1 y1 y2 => ?_)
  exact K v1 y1 y2
end
