/-! THE REFERENCE: questions F: the best touch -/
def TRp (v : zH) (W : zWl) (S : zSk) (c : zCo) (a n m : Int) : Prop := ∀ s h o : Int, 0 ≤ s → s < m → 0 ≤ h → h ≤ n → isc (wR W) (wC W) o = true → v 110 (36 * (25 * s + h) + o) = sTry W S c a s h (ixn (wC W) o)
section
variable {l : Launch} {G : zG} {d : Nat} {v : zH} {Q : Int → zH → Prop} {W : zWl} {c : zCo} {S : zSk} {T : zTo}
theorem tom_19 {a s n h x y : Int} {v0 w0 : zH} {k : Nat} {c1 : zCo} {QX : Nat → zH → Prop} (hs : 0 ≤ s ∧ s < 4) (hh : 0 ≤ h ∧ h ≤ 24) (hk : k ≤ 100) (hc : cH c1 ≤ 900000) (hH : MH w0 v0 W c1 S k)
    (K : ∀ v' : zH, MH w0 v' W c1 S (k + 1) → (∀ o : Int, 0 ≤ o → o < 36 → v' 110 (36 * (25 * s + h) + o) = v0 97 o) → (∀ j : Int, ¬ (36 * (25 * s + h) ≤ j ∧ j < 36 * (25 * s + h) + 36) → v' 110 j = v0 110 j) → zJ l G 1 (d + 7) h_M_tryOut k_M_tryOut 115 Q QX 14 [(2, 77), (0, a), (0, s), (0, n), (0, x), (0, y), (0, h + 1), (3, 0)] [] v' 115) :
    ∀ (m i : Nat) {v : zH}, i + m = 36 → (∀ b : Int, b ≠ 110 → v b = v0 b) → (∀ o : Int, 0 ≤ o → o < i → v 110 (36 * (25 * s + h) + o) = v0 97 o) → (∀ j : Int, ¬ (36 * (25 * s + h) ≤ j ∧ j < 36 * (25 * s + h) + 36) → v 110 j = v0 110 j) → zJ l G 1 (d + 7) h_M_tryOut k_M_tryOut 115 Q QX 19 [(2, 77), (0, a), (0, s), (0, n), (0, x), (0, y), (0, h), (0, (i : Int))] [] v 115
  | m, i, v, hi, hF, hp, hq => by
    match m, hi with
    | 0, hi =>
      refine zgo ck_M_tryOut 300 19 _ _ _ _ rfl (sg_M_tryOut_19 ?_)
      try simp (disch := omega) only [zup_e, zup_ak, zup_j, Int.zero_add, Int.reduceAdd, mz78, mz79, mz80, mz81, mz82, mz83, mz84, mz85, mz86, mz87, mz88, mz89, mz90, mz91, mz92, mz93, mz94, mz95, mz96, mz97, mz98, mz99, mz100, mz101, mz102, mz103, mz104, mz105, mz106, mz107, mz108, mz109, mz110, mz111, mz112, mz113]
      refine ⟨fun q1 => ⟨by first | decide | omega | contradiction | exact absurd trivial (by assumption), ?_⟩, fun q2 => ⟨by first | decide | omega | contradiction | exact absurd trivial (by assumption), ⟨by first | decide | omega | contradiction | exact absurd trivial (by assumption), by first | decide | omega | contradiction | exact absurd trivial (by assumption)⟩, ⟨by first | decide | omega | contradiction | exact absurd trivial (by assumption), by first | decide | omega | contradiction | exact absurd trivial (by assumption)⟩, ⟨by first | decide | omega | contradiction | exact absurd trivial (by assumption), by first | decide | omega | contradiction | exact absurd trivial (by assumption)⟩, ⟨by first | decide | omega | contradiction | exact absurd trivial (by assumption), by first | decide | omega | contradiction | exact absurd trivial (by assumption)⟩, by first | decide | omega | contradiction | exact absurd trivial (by assumption), by first | decide | omega | contradiction | exact absurd trivial (by assumption), ⟨by first | decide | omega | contradiction | exact absurd trivial (by assumption), by first | decide | omega | contradiction | exact absurd trivial (by assumption)⟩, by first | decide | omega | contradiction | exact absurd trivial (by assumption), ⟨by first | decide | omega | contradiction | exact absurd trivial (by assumption), by first | decide | omega | contradiction | exact absurd trivial (by assumption)⟩, ⟨by first | decide | omega | contradiction | exact absurd trivial (by assumption), by first | decide | omega | contradiction | exact absurd trivial (by assumption)⟩, ?_⟩⟩
      try (any_goals (exfalso; first | omega | exact absurd trivial (by assumption)))
      refine m_ps (MH_1 (x := 110) (by omega) hF hH) (by omega) (fun v1 f1 f2 f3 => ?_)
      refine ⟨⟨by first | decide | omega | contradiction | exact absurd trivial (by assumption), by first | decide | omega | contradiction | exact absurd trivial (by assumption)⟩, ?_⟩
      exact K v1 f1 (fun o a1 a2 => by rw [f3 110 (by omega)]; exact hp o a1 (by omega)) (fun j q => by rw [f3 110 (by omega)]; exact hq j q)
    | m + 1, hi =>
      have z110 : zLN 110 = 3600 := by decide
      have e97 : v 97 i = v0 97 i := by rw [hF 97 (by omega)]
      refine zgo ck_M_tryOut 300 19 _ _ _ _ rfl (sg_M_tryOut_19 ?_)
      try simp (disch := omega) only [zup_e, zup_ak, zup_j, Int.zero_add, Int.reduceAdd, mz78, mz79, mz80, mz81, mz82, mz83, mz84, mz85, mz86, mz87, mz88, mz89, mz90, mz91, mz92, mz93, mz94, mz95, mz96, mz97, mz98, mz99, mz100, mz101, mz102, mz103, mz104, mz105, mz106, mz107, mz108, mz109, mz110, mz111, mz112, mz113, z110]
      refine ⟨fun q1 => ⟨by first | decide | omega | contradiction | exact absurd trivial (by assumption), ?_⟩, fun q2 => ⟨by first | decide | omega | contradiction | exact absurd trivial (by assumption), ⟨by first | decide | omega | contradiction | exact absurd trivial (by assumption), by first | decide | omega | contradiction | exact absurd trivial (by assumption)⟩, ⟨by first | decide | omega | contradiction | exact absurd trivial (by assumption), by first | decide | omega | contradiction | exact absurd trivial (by assumption)⟩, ⟨by first | decide | omega | contradiction | exact absurd trivial (by assumption), by first | decide | omega | contradiction | exact absurd trivial (by assumption)⟩, ⟨by first | decide | omega | contradiction | exact absurd trivial (by assumption), by first | decide | omega | contradiction | exact absurd trivial (by assumption)⟩, by first | decide | omega | contradiction | exact absurd trivial (by assumption), by first | decide | omega | contradiction | exact absurd trivial (by assumption), ⟨by first | decide | omega | contradiction | exact absurd trivial (by assumption), by first | decide | omega | contradiction | exact absurd trivial (by assumption)⟩, by first | decide | omega | contradiction | exact absurd trivial (by assumption), ⟨by first | decide | omega | contradiction | exact absurd trivial (by assumption), by first | decide | omega | contradiction | exact absurd trivial (by assumption)⟩, ⟨by first | decide | omega | contradiction | exact absurd trivial (by assumption), by first | decide | omega | contradiction | exact absurd trivial (by assumption)⟩, ?_⟩⟩
      try (any_goals (exfalso; first | omega | exact absurd trivial (by assumption)))
      refine tom_19 hs hh hk hc hH K m (i + 1) (by omega) (fun b q => (zup_a q).trans (hF b q)) (fun o a1 a2 => ?_) (fun j q => ?_)
      · by_cases e : o = i
        · rw [e, zup_s]
          exact e97
        · rw [zup_j (by omega)]
          exact hp o a1 (by omega)
      · rw [zup_j (by omega)]
        exact hq j q
theorem tom_14 {a s : Int} {n : Nat} {v0 w0 : zH} {QX : Nat → zH → Prop} (hs : 0 ≤ s ∧ s < wS W) (hn : n ≤ 24) (ha : isc (wR W) (wC W) a = true) (hc : Cok W c) (hQ0 : QM w0 W (sChg W c (ixn (wC W) a) s) S)
    (K : ∀ v' : zH, Fz w0 v' → QM v' W c S → (∀ h o : Int, 0 ≤ h → h ≤ n → isc (wR W) (wC W) o = true → v' 110 (36 * (25 * s + h) + o) = sTry W S c (ixn (wC W) a) s h (ixn (wC W) o)) → (∀ j : Int, ¬ (900 * s ≤ j ∧ j < 900 * s + 900) → v' 110 j = v0 110 j) → Q 0 v') :
    ∀ (m i : Nat) {v : zH}, i + m = n + 1 → MH w0 v W (sChg W c (ixn (wC W) a) s) S i → (∀ h o : Int, 0 ≤ h → h < i → isc (wR W) (wC W) o = true → v 110 (36 * (25 * s + h) + o) = sTry W S c (ixn (wC W) a) s h (ixn (wC W) o)) → (∀ j : Int, ¬ (900 * s ≤ j ∧ j < 900 * s + 900) → v 110 j = v0 110 j) → zJ l G 1 (d + 7) h_M_tryOut k_M_tryOut 115 Q QX 14 [(2, 77), (0, a), (0, s), (0, (n : Int)), (0, cS c (ixn (wC W) a)), (0, cW c (ixn (wC W) a)), (0, (i : Int)), (3, 0)] [] v 115
  | m, i, v, hi, hH, hp, hq => by
    obtain ⟨hW, hM, hc1, -⟩ := id hQ0.1
    have h4 := hW.2.2.2.2.2.2.1
    match m, hi with
    | 0, hi =>
      refine zgo ck_M_tryOut 300 14 _ _ _ _ rfl (sg_M_tryOut_14 ?_)
      try simp (disch := omega) only [zup_e, zup_ak, zup_j, Int.zero_add, Int.reduceAdd, mz78, mz79, mz80, mz81, mz82, mz83, mz84, mz85, mz86, mz87, mz88, mz89, mz90, mz91, mz92, mz93, mz94, mz95, mz96, mz97, mz98, mz99, mz100, mz101, mz102, mz103, mz104, mz105, mz106, mz107, mz108, mz109, mz110, mz111, mz112, mz113]
      refine ⟨fun q1 => ⟨by first | decide | omega | contradiction | exact absurd trivial (by assumption), ?_⟩, fun q2 => ?_⟩
      try (any_goals (exfalso; first | omega | exact absurd trivial (by assumption)))
      refine m_qtb hQ0 hH (fun v1 y1 y2 y3 => ?_)
      refine ⟨by first | decide | omega | contradiction | exact absurd trivial (by assumption), ?_⟩
      refine c_M_layBack hc y2 ha (fun v2 e1 e2 => ?_)
      have e110 : v2 110 = v 110 := by rw [e1 110 (by omega) (by omega), y3 110 (by omega) (by omega)]
      exact K v2 (Fz_tr y1 ⟨fun b q => e1 b (by omega) (by omega), fun k _ _ _ _ _ _ => by rw [e1 77 (by omega) (by omega)]⟩) e2 (fun h o h1 h2 ho => by rw [e110]; exact hp h o h1 (by omega) ho) (fun j q => by rw [e110]; exact hq j q)
    | m + 1, hi =>
      refine zgo ck_M_tryOut 300 14 _ _ _ _ rfl (sg_M_tryOut_14 ?_)
      try simp (disch := omega) only [zup_e, zup_ak, zup_j, Int.zero_add, Int.reduceAdd, mz78, mz79, mz80, mz81, mz82, mz83, mz84, mz85, mz86, mz87, mz88, mz89, mz90, mz91, mz92, mz93, mz94, mz95, mz96, mz97, mz98, mz99, mz100, mz101, mz102, mz103, mz104, mz105, mz106, mz107, mz108, mz109, mz110, mz111, mz112, mz113]
      refine ⟨fun q1 => ⟨by first | decide | omega | contradiction | exact absurd trivial (by assumption), ?_⟩, fun q2 => ?_⟩
      try (any_goals (exfalso; first | omega | exact absurd trivial (by assumption)))
      refine tom_19 (v0 := v) (by omega) (by omega) (by omega) hQ0.2.2 hH (fun v1 f1 f2 f3 => ?_) 36 0 (by omega) (fun _ _ => rfl) (fun o a1 a2 => by omega) (fun _ _ => rfl)
      refine tom_14 hs hn ha hc hQ0 K m (i + 1) (by omega) f1 (fun h o h1 h2 ho => ?_) (fun j q => ?_)
      · have h36 := is36 hW ho
        by_cases e : h = i
        · rw [e, f2 o h36.1 h36.2.1, (hH.2.1.2.2.2.1.2.1 o ho).1]
          show _ = cW (sSt W (sSn S) (kR S) (sChg W c (ixn (wC W) a) s) (i : Int).toNat) _
          rw [Int.toNat_natCast]
        · rw [f3 _ (by omega)]
          exact hp h o h1 (by omega) ho
      · rw [f3 j (by omega)]
        exact hq j q
theorem c_M_tryOut {a s : Int} {n : Nat} (hQ : QM v W c S) (ha : isc (wR W) (wC W) a = true) (hs : 0 ≤ s ∧ s < wS W) (hn : n ≤ 24)
    (K : ∀ v' : zH, Fz v v' → QM v' W c S → (∀ h o : Int, 0 ≤ h → h ≤ n → isc (wR W) (wC W) o = true → v' 110 (36 * (25 * s + h) + o) = sTry W S c (ixn (wC W) a) s h (ixn (wC W) o)) → (∀ j : Int, ¬ (900 * s ≤ j ∧ j < 900 * s + 900) → v' 110 j = v 110 j) → Q 0 v') : zC l G 1 (d + 7) h_M_tryOut [(2, 77), (0, a), (0, s), (0, (n : Int))] v 115 Q := by
  obtain ⟨hW, hM, hc, -⟩ := id hQ.1
  refine zC_at ok_M_tryOut ck_M_tryOut rfl rfl (sg_M_tryOut_0 ?_)
  try simp (disch := omega) only [zup_e, zup_ak, zup_j, Int.zero_add, Int.reduceAdd, mz78, mz79, mz80, mz81, mz82, mz83, mz84, mz85, mz86, mz87, mz88, mz89, mz90, mz91, mz92, mz93, mz94, mz95, mz96, mz97, mz98, mz99, mz100, mz101, mz102, mz103, mz104, mz105, mz106, mz107, mz108, mz109, mz110, mz111, mz112, mz113]
  refine ⟨by first | decide | omega | contradiction | exact absurd trivial (by assumption), ?_⟩
  refine c_M_lay hQ ha hs (fun v1 f1 f2 f3 f4 f5 => ?_)
  refine ⟨by first | decide | omega | contradiction | exact absurd trivial (by assumption), by first | decide | omega | contradiction | exact absurd trivial (by assumption), by first | decide | omega | contradiction | exact absurd trivial (by assumption), ?_⟩
  refine c_M_putAside f5.1 (fun v2 a1 a2 a3 a4 a5 => ?_)
  show _
  simp only [f2, f3]
  exact tom_14 (v0 := v) (w0 := v1) hs hn ha hc f5 (fun v3 y1 y2 y3 y4 => K v3 (Fz_tr f1 y1) y2 y3 y4) (n + 1) 0 (by omega) ⟨a1, a4, a5, a2 39 (by omega), a3 94 (by omega) (by omega), a3 96 (by omega) (by omega)⟩ (fun h o h1 h2 => by omega) (fun j q => by rw [a3 110 (by omega) (by omega), f4 110 (by omega) (by omega) (by omega)])
-- how many unlike warmths
theorem unm_14 {a x n h o : Int} {s : Nat} {y : Int} {QX : Nat → zH → Prop} (hW : Wok W) (hR : TRp v W S c (ixn (wC W) a) n (wS W)) (hh : 0 ≤ h ∧ h ≤ n) (hn : n ≤ 24) (ho : isc (wR W) (wC W) o = true) (hs : (s : Int) < wS W) (hy : 0 ≤ y ∧ y ≤ 100)
    (K : zJ l G 1 (d + 2) h_M_unlike k_M_unlike 115 Q QX 4 [(2, 77), (0, x), (0, h), (0, o), (0, if sNew W S c (ixn (wC W) a) x h (ixn (wC W) o) s s = true then y + 1 else y), (0, (s : Int) + 1), (3, 0), (3, 0)] [] v 115) :
    ∀ (m t : Nat), t + m = s → zJ l G 1 (d + 2) h_M_unlike k_M_unlike 115 Q QX 14 [(2, 77), (0, x), (0, h), (0, o), (0, y), (0, (s : Int)), (0, if sNew W S c (ixn (wC W) a) x h (ixn (wC W) o) s t = true then 1 else 0), (0, (t : Int))] [] v 115
  | m, t, ht => by
    have h4 := hW.2.2.2.2.2.2.1
    have h36 := is36 hW ho
    have z110 : zLN 110 = 3600 := by decide
    match m, ht with
    | 0, ht =>
      have e : t = s := by omega
      subst e
      by_cases q : sNew W S c (ixn (wC W) a) x h (ixn (wC W) o) t t = true
      · rw [if_pos q] at K ⊢
        refine zgo ck_M_unlike 300 14 _ _ _ _ rfl (sg_M_unlike_14 ?_)
        try simp (disch := omega) only [zup_e, zup_ak, zup_j, Int.zero_add, Int.reduceAdd, mz78, mz79, mz80, mz81, mz82, mz83, mz84, mz85, mz86, mz87, mz88, mz89, mz90, mz91, mz92, mz93, mz94, mz95, mz96, mz97, mz98, mz99, mz100, mz101, mz102, mz103, mz104, mz105, mz106, mz107, mz108, mz109, mz110, mz111, mz112, mz113]
        refine ⟨fun q1 => ⟨fun q2 => ⟨⟨by first | decide | omega | contradiction | exact absurd trivial (by assumption), by first | decide | omega | contradiction | exact absurd trivial (by assumption)⟩, ⟨by first | decide | omega | contradiction | exact absurd trivial (by assumption), by first | decide | omega | contradiction | exact absurd trivial (by assumption)⟩, ?_⟩, fun q3 => ⟨⟨by first | decide | omega | contradiction | exact absurd trivial (by assumption), by first | decide | omega | contradiction | exact absurd trivial (by assumption)⟩, ⟨by first | decide | omega | contradiction | exact absurd trivial (by assumption), by first | decide | omega | contradiction | exact absurd trivial (by assumption)⟩, ?_⟩⟩, fun q4 => ⟨fun q5 => ⟨⟨by first | decide | omega | contradiction | exact absurd trivial (by assumption), by first | decide | omega | contradiction | exact absurd trivial (by assumption)⟩, ?_⟩, fun q6 => ?_⟩⟩
        try (any_goals (exfalso; first | omega | exact absurd trivial (by assumption)))
        exact K
      · rw [if_neg q] at K ⊢
        refine zgo ck_M_unlike 300 14 _ _ _ _ rfl (sg_M_unlike_14 ?_)
        try simp (disch := omega) only [zup_e, zup_ak, zup_j, Int.zero_add, Int.reduceAdd, mz78, mz79, mz80, mz81, mz82, mz83, mz84, mz85, mz86, mz87, mz88, mz89, mz90, mz91, mz92, mz93, mz94, mz95, mz96, mz97, mz98, mz99, mz100, mz101, mz102, mz103, mz104, mz105, mz106, mz107, mz108, mz109, mz110, mz111, mz112, mz113, Int.add_zero]
        refine ⟨fun q1 => ⟨fun q2 => ⟨⟨by first | decide | omega | contradiction | exact absurd trivial (by assumption), by first | decide | omega | contradiction | exact absurd trivial (by assumption)⟩, ⟨by first | decide | omega | contradiction | exact absurd trivial (by assumption), by first | decide | omega | contradiction | exact absurd trivial (by assumption)⟩, ?_⟩, fun q3 => ⟨⟨by first | decide | omega | contradiction | exact absurd trivial (by assumption), by first | decide | omega | contradiction | exact absurd trivial (by assumption)⟩, ⟨by first | decide | omega | contradiction | exact absurd trivial (by assumption), by first | decide | omega | contradiction | exact absurd trivial (by assumption)⟩, ?_⟩⟩, fun q4 => ⟨fun q5 => ⟨⟨by first | decide | omega | contradiction | exact absurd trivial (by assumption), by first | decide | omega | contradiction | exact absurd trivial (by assumption)⟩, ?_⟩, fun q6 => ?_⟩⟩
        try (any_goals (exfalso; first | omega | exact absurd trivial (by assumption)))
        exact K
    | m + 1, ht =>
      have g := unm_14 (QX := QX) hW hR hh hn ho hs hy K m (t + 1) (by omega)
      have es : sNew W S c (ixn (wC W) a) x h (ixn (wC W) o) s (t + 1) = if sBt x t = true ∧ sTry W S c (ixn (wC W) a) t h (ixn (wC W) o) = sTry W S c (ixn (wC W) a) s h (ixn (wC W) o) then false else sNew W S c (ixn (wC W) a) x h (ixn (wC W) o) s t := rfl
      rw [es] at g
      have e1 := hR t h o (by omega) (by omega) hh.1 hh.2 ho
      have e2 := hR s h o (by omega) (by omega) hh.1 hh.2 ho
      cases hz : sNew W S c (ixn (wC W) a) x h (ixn (wC W) o) s t with
      | false =>
        rw [hz] at g
        have eg : (if sBt x t = true ∧ sTry W S c (ixn (wC W) a) t h (ixn (wC W) o) = sTry W S c (ixn (wC W) a) s h (ixn (wC W) o) then false else false) = false := by split <;> rfl
        rw [eg, if_neg (by decide)] at g
        rw [if_neg (by decide)]
        refine zgo ck_M_unlike 300 14 _ _ _ _ rfl (sg_M_unlike_14 ?_)
        try simp (disch := omega) only [zup_e, zup_ak, zup_j, Int.zero_add, Int.reduceAdd, mz78, mz79, mz80, mz81, mz82, mz83, mz84, mz85, mz86, mz87, mz88, mz89, mz90, mz91, mz92, mz93, mz94, mz95, mz96, mz97, mz98, mz99, mz100, mz101, mz102, mz103, mz104, mz105, mz106, mz107, mz108, mz109, mz110, mz111, mz112, mz113]
        refine ⟨fun q1 => ⟨fun q2 => ⟨⟨by first | decide | omega | contradiction | exact absurd trivial (by assumption), by first | decide | omega | contradiction | exact absurd trivial (by assumption)⟩, ⟨by first | decide | omega | contradiction | exact absurd trivial (by assumption), by first | decide | omega | contradiction | exact absurd trivial (by assumption)⟩, ?_⟩, fun q3 => ⟨⟨by first | decide | omega | contradiction | exact absurd trivial (by assumption), by first | decide | omega | contradiction | exact absurd trivial (by assumption)⟩, ⟨by first | decide | omega | contradiction | exact absurd trivial (by assumption), by first | decide | omega | contradiction | exact absurd trivial (by assumption)⟩, ?_⟩⟩, fun q4 => ⟨fun q5 => ⟨⟨by first | decide | omega | contradiction | exact absurd trivial (by assumption), by first | decide | omega | contradiction | exact absurd trivial (by assumption)⟩, ?_⟩, fun q6 => ?_⟩⟩
        try (any_goals (exfalso; first | omega | exact absurd trivial (by assumption)))
        exact g
      | true =>
        rw [hz] at g
        rw [if_pos rfl]
        refine zgo ck_M_unlike 300 14 _ _ _ _ rfl (sg_M_unlike_14 ?_)
        try simp (disch := omega) only [zup_e, zup_ak, zup_j, Int.zero_add, Int.reduceAdd, mz78, mz79, mz80, mz81, mz82, mz83, mz84, mz85, mz86, mz87, mz88, mz89, mz90, mz91, mz92, mz93, mz94, mz95, mz96, mz97, mz98, mz99, mz100, mz101, mz102, mz103, mz104, mz105, mz106, mz107, mz108, mz109, mz110, mz111, mz112, mz113]
        refine ⟨fun q1 => ⟨fun q2 => ⟨⟨by first | decide | omega | contradiction | exact absurd trivial (by assumption), by first | decide | omega | contradiction | exact absurd trivial (by assumption)⟩, ⟨by first | decide | omega | contradiction | exact absurd trivial (by assumption), by first | decide | omega | contradiction | exact absurd trivial (by assumption)⟩, ?_⟩, fun q3 => ⟨⟨by first | decide | omega | contradiction | exact absurd trivial (by assumption), by first | decide | omega | contradiction | exact absurd trivial (by assumption)⟩, ⟨by first | decide | omega | contradiction | exact absurd trivial (by assumption), by first | decide | omega | contradiction | exact absurd trivial (by assumption)⟩, ?_⟩⟩, fun q4 => ⟨fun q5 => ⟨⟨by first | decide | omega | contradiction | exact absurd trivial (by assumption), by first | decide | omega | contradiction | exact absurd trivial (by assumption)⟩, ?_⟩, fun q6 => ?_⟩⟩
        try (any_goals (exfalso; first | omega | exact absurd trivial (by assumption)))
        refine c_M_has ?_
        by_cases hb : sBt x t = true
        rotate_left
        · rw [if_neg (c := sBt x t = true ∧ sTry W S c (ixn (wC W) a) t h (ixn (wC W) o) = sTry W S c (ixn (wC W) a) s h (ixn (wC W) o)) (fun q => hb q.1), if_pos rfl] at g
          rw [if_neg hb]
          refine ⟨fun q1 => ⟨⟨by first | decide | omega | contradiction | exact absurd trivial (by assumption), by first | decide | omega | contradiction | exact absurd trivial (by assumption)⟩, ?_⟩, fun q2 => ⟨by first | decide | omega | contradiction | exact absurd trivial (by assumption), ⟨by first | decide | omega | contradiction | exact absurd trivial (by assumption), by first | decide | omega | contradiction | exact absurd trivial (by assumption)⟩, ⟨by first | decide | omega | contradiction | exact absurd trivial (by assumption), by first | decide | omega | contradiction | exact absurd trivial (by assumption)⟩, ⟨by first | decide | omega | contradiction | exact absurd trivial (by assumption), by first | decide | omega | contradiction | exact absurd trivial (by assumption)⟩, ⟨by first | decide | omega | contradiction | exact absurd trivial (by assumption), by first | decide | omega | contradiction | exact absurd trivial (by assumption)⟩, by first | decide | omega | contradiction | exact absurd trivial (by assumption), ⟨by first | decide | omega | contradiction | exact absurd trivial (by assumption), by first | decide | omega | contradiction | exact absurd trivial (by assumption)⟩, by first | decide | omega | contradiction | exact absurd trivial (by assumption), ⟨by first | decide | omega | contradiction | exact absurd trivial (by assumption), by first | decide | omega | contradiction | exact absurd trivial (by assumption)⟩, ⟨by first | decide | omega | contradiction | exact absurd trivial (by assumption), by first | decide | omega | contradiction | exact absurd trivial (by assumption)⟩, ⟨by first | decide | omega | contradiction | exact absurd trivial (by assumption), by first | decide | omega | contradiction | exact absurd trivial (by assumption)⟩, ⟨by first | decide | omega | contradiction | exact absurd trivial (by assumption), by first | decide | omega | contradiction | exact absurd trivial (by assumption)⟩, by first | decide | omega | contradiction | exact absurd trivial (by assumption), ⟨by first | decide | omega | contradiction | exact absurd trivial (by assumption), by first | decide | omega | contradiction | exact absurd trivial (by assumption)⟩, ⟨fun q3 => ⟨⟨by first | decide | omega | contradiction | exact absurd trivial (by assumption), by first | decide | omega | contradiction | exact absurd trivial (by assumption)⟩, ?_⟩, fun q4 => ⟨⟨by first | decide | omega | contradiction | exact absurd trivial (by assumption), by first | decide | omega | contradiction | exact absurd trivial (by assumption)⟩, ?_⟩⟩⟩⟩
          try (any_goals (exfalso; first | omega | exact absurd trivial (by assumption)))
          exact g
        rw [if_pos hb]
        by_cases he : sTry W S c (ixn (wC W) a) t h (ixn (wC W) o) = sTry W S c (ixn (wC W) a) s h (ixn (wC W) o)
        · rw [if_pos (c := sBt x t = true ∧ sTry W S c (ixn (wC W) a) t h (ixn (wC W) o) = sTry W S c (ixn (wC W) a) s h (ixn (wC W) o)) ⟨hb, he⟩, if_neg (by decide)] at g
          refine ⟨fun q1 => ⟨⟨by first | decide | omega | contradiction | exact absurd trivial (by assumption), by first | decide | omega | contradiction | exact absurd trivial (by assumption)⟩, ?_⟩, fun q2 => ⟨by first | decide | omega | contradiction | exact absurd trivial (by assumption), ⟨by first | decide | omega | contradiction | exact absurd trivial (by assumption), by first | decide | omega | contradiction | exact absurd trivial (by assumption)⟩, ⟨by first | decide | omega | contradiction | exact absurd trivial (by assumption), by first | decide | omega | contradiction | exact absurd trivial (by assumption)⟩, ⟨by first | decide | omega | contradiction | exact absurd trivial (by assumption), by first | decide | omega | contradiction | exact absurd trivial (by assumption)⟩, ⟨by first | decide | omega | contradiction | exact absurd trivial (by assumption), by first | decide | omega | contradiction | exact absurd trivial (by assumption)⟩, by first | decide | omega | contradiction | exact absurd trivial (by assumption), ⟨by first | decide | omega | contradiction | exact absurd trivial (by assumption), by first | decide | omega | contradiction | exact absurd trivial (by assumption)⟩, by first | decide | omega | contradiction | exact absurd trivial (by assumption), ⟨by first | decide | omega | contradiction | exact absurd trivial (by assumption), by first | decide | omega | contradiction | exact absurd trivial (by assumption)⟩, ⟨by first | decide | omega | contradiction | exact absurd trivial (by assumption), by first | decide | omega | contradiction | exact absurd trivial (by assumption)⟩, ⟨by first | decide | omega | contradiction | exact absurd trivial (by assumption), by first | decide | omega | contradiction | exact absurd trivial (by assumption)⟩, ⟨by first | decide | omega | contradiction | exact absurd trivial (by assumption), by first | decide | omega | contradiction | exact absurd trivial (by assumption)⟩, by first | decide | omega | contradiction | exact absurd trivial (by assumption), ⟨by first | decide | omega | contradiction | exact absurd trivial (by assumption), by first | decide | omega | contradiction | exact absurd trivial (by assumption)⟩, ⟨fun q3 => ⟨⟨by first | decide | omega | contradiction | exact absurd trivial (by assumption), by first | decide | omega | contradiction | exact absurd trivial (by assumption)⟩, ?_⟩, fun q4 => ⟨⟨by first | decide | omega | contradiction | exact absurd trivial (by assumption), by first | decide | omega | contradiction | exact absurd trivial (by assumption)⟩, ?_⟩⟩⟩⟩
          try (any_goals (exfalso; first | omega | exact absurd trivial (by assumption)))
          exact g
        · rw [if_neg (c := sBt x t = true ∧ sTry W S c (ixn (wC W) a) t h (ixn (wC W) o) = sTry W S c (ixn (wC W) a) s h (ixn (wC W) o)) (fun q => he q.2), if_pos rfl] at g
          refine ⟨fun q1 => ⟨⟨by first | decide | omega | contradiction | exact absurd trivial (by assumption), by first | decide | omega | contradiction | exact absurd trivial (by assumption)⟩, ?_⟩, fun q2 => ⟨by first | decide | omega | contradiction | exact absurd trivial (by assumption), ⟨by first | decide | omega | contradiction | exact absurd trivial (by assumption), by first | decide | omega | contradiction | exact absurd trivial (by assumption)⟩, ⟨by first | decide | omega | contradiction | exact absurd trivial (by assumption), by first | decide | omega | contradiction | exact absurd trivial (by assumption)⟩, ⟨by first | decide | omega | contradiction | exact absurd trivial (by assumption), by first | decide | omega | contradiction | exact absurd trivial (by assumption)⟩, ⟨by first | decide | omega | contradiction | exact absurd trivial (by assumption), by first | decide | omega | contradiction | exact absurd trivial (by assumption)⟩, by first | decide | omega | contradiction | exact absurd trivial (by assumption), ⟨by first | decide | omega | contradiction | exact absurd trivial (by assumption), by first | decide | omega | contradiction | exact absurd trivial (by assumption)⟩, by first | decide | omega | contradiction | exact absurd trivial (by assumption), ⟨by first | decide | omega | contradiction | exact absurd trivial (by assumption), by first | decide | omega | contradiction | exact absurd trivial (by assumption)⟩, ⟨by first | decide | omega | contradiction | exact absurd trivial (by assumption), by first | decide | omega | contradiction | exact absurd trivial (by assumption)⟩, ⟨by first | decide | omega | contradiction | exact absurd trivial (by assumption), by first | decide | omega | contradiction | exact absurd trivial (by assumption)⟩, ⟨by first | decide | omega | contradiction | exact absurd trivial (by assumption), by first | decide | omega | contradiction | exact absurd trivial (by assumption)⟩, by first | decide | omega | contradiction | exact absurd trivial (by assumption), ⟨by first | decide | omega | contradiction | exact absurd trivial (by assumption), by first | decide | omega | contradiction | exact absurd trivial (by assumption)⟩, ⟨fun q3 => ⟨⟨by first | decide | omega | contradiction | exact absurd trivial (by assumption), by first | decide | omega | contradiction | exact absurd trivial (by assumption)⟩, ?_⟩, fun q4 => ⟨⟨by first | decide | omega | contradiction | exact absurd trivial (by assumption), by first | decide | omega | contradiction | exact absurd trivial (by assumption)⟩, ?_⟩⟩⟩⟩
          try (any_goals (exfalso; first | omega | exact absurd trivial (by assumption)))
          exact g
theorem unm_4 {a x n h o : Int} {QX : Nat → zH → Prop} (hW : Wok W) (hM : MW v W) (hR : TRp v W S c (ixn (wC W) a) n (wS W)) (hh : 0 ≤ h ∧ h ≤ n) (hn : n ≤ 24) (ho : isc (wR W) (wC W) o = true) (K : Q (sUnl W S c (ixn (wC W) a) x h (ixn (wC W) o) (wS W).toNat) v) :
    ∀ (m s : Nat), (s : Int) + m = wS W → zJ l G 1 (d + 2) h_M_unlike k_M_unlike 115 Q QX 4 [(2, 77), (0, x), (0, h), (0, o), (0, sUnl W S c (ixn (wC W) a) x h (ixn (wC W) o) s), (0, (s : Int)), (3, 0), (3, 0)] [] v 115
  | m, s, hs => by
    have h4 := hW.2.2.2.2.2.2.1
    match m, hs with
    | 0, hs =>
      have e : s = (wS W).toNat := by omega
      rw [← e] at K
      refine zgo ck_M_unlike 300 4 _ _ _ _ rfl (sg_M_unlike_4 ?_)
      try simp (disch := omega) only [zup_e, zup_ak, zup_j, Int.zero_add, Int.reduceAdd, mz78, mz79, mz80, mz81, mz82, mz83, mz84, mz85, mz86, mz87, mz88, mz89, mz90, mz91, mz92, mz93, mz94, mz95, mz96, mz97, mz98, mz99, mz100, mz101, mz102, mz103, mz104, mz105, mz106, mz107, mz108, mz109, mz110, mz111, mz112, mz113, hM.1]
      refine ⟨by first | decide | omega | contradiction | exact absurd trivial (by assumption), ⟨fun q1 => ?_, fun q2 => ?_⟩⟩
      try (any_goals (exfalso; first | omega | exact absurd trivial (by assumption)))
      exact K
    | m + 1, hs =>
      have ub := unl_b (W := W) (S := S) (c := c) (a := ixn (wC W) a) (x := x) (h := h) (b := ixn (wC W) o) s
      have next := unm_4 (QX := QX) hW hM hR hh hn ho K m (s + 1) (by omega)
      have ei : ((s + 1 : Nat) : Int) = (s : Int) + 1 := by omega
      have es : sUnl W S c (ixn (wC W) a) x h (ixn (wC W) o) (s + 1) = if sNew W S c (ixn (wC W) a) x h (ixn (wC W) o) s (s : Int).toNat = true then sUnl W S c (ixn (wC W) a) x h (ixn (wC W) o) s + 1 else sUnl W S c (ixn (wC W) a) x h (ixn (wC W) o) s := rfl
      rw [Int.toNat_natCast] at es
      rw [ei, es] at next
      have go := unm_14 (y := sUnl W S c (ixn (wC W) a) x h (ixn (wC W) o) s) hW hR hh hn ho (by omega) (by omega) next s 0 (by omega)
      have e0 : sNew W S c (ixn (wC W) a) x h (ixn (wC W) o) s 0 = sBt x s := rfl
      rw [e0] at go
      refine zgo ck_M_unlike 300 4 _ _ _ _ rfl (sg_M_unlike_4 ?_)
      try simp (disch := omega) only [zup_e, zup_ak, zup_j, Int.zero_add, Int.reduceAdd, mz78, mz79, mz80, mz81, mz82, mz83, mz84, mz85, mz86, mz87, mz88, mz89, mz90, mz91, mz92, mz93, mz94, mz95, mz96, mz97, mz98, mz99, mz100, mz101, mz102, mz103, mz104, mz105, mz106, mz107, mz108, mz109, mz110, mz111, mz112, mz113, hM.1]
      refine ⟨by first | decide | omega | contradiction | exact absurd trivial (by assumption), ⟨fun q1 => ?_, fun q2 => ?_⟩⟩
      try (any_goals (exfalso; first | omega | exact absurd trivial (by assumption)))
      refine c_M_has ?_
      exact go
theorem c_M_unlike {a x n h o : Int} (hW : Wok W) (hM : MW v W) (hR : TRp v W S c (ixn (wC W) a) n (wS W)) (hh : 0 ≤ h ∧ h ≤ n) (hn : n ≤ 24) (ho : isc (wR W) (wC W) o = true) (K : Q (sUnl W S c (ixn (wC W) a) x h (ixn (wC W) o) (wS W).toNat) v) : zC l G 1 (d + 2) h_M_unlike [(2, 77), (0, x), (0, h), (0, o)] v 115 Q := by
  have h4 := hW.2.2.2.2.2.2.1
  refine zC_at ok_M_unlike ck_M_unlike rfl rfl (sg_M_unlike_0 ?_)
  try simp (disch := omega) only [zup_e, zup_ak, zup_j, Int.zero_add, Int.reduceAdd, mz78, mz79, mz80, mz81, mz82, mz83, mz84, mz85, mz86, mz87, mz88, mz89, mz90, mz91, mz92, mz93, mz94, mz95, mz96, mz97, mz98, mz99, mz100, mz101, mz102, mz103, mz104, mz105, mz106, mz107, mz108, mz109, mz110, mz111, mz112, mz113]
  exact unm_4 hW hM hR hh hn ho K (wS W).toNat 0 (by omega)
-- the best touch
def mTc (W : zWl) (S : zSk) (c : zCo) (a x h : Int) (p : Int × Int) (i : Nat) : Int × Int := fd (fun p o => if isc (wR W) (wC W) o = true then (if p.2 < sUnl W S c a x h (ixn (wC W) o) (wS W).toNat then (100 * h + nmi (wC W) (ixn (wC W) o), sUnl W S c a x h (ixn (wC W) o) (wS W).toNat) else p) else p) p i
theorem mTc_s {a x h : Int} {p : Int × Int} {i : Nat} : mTc W S c a x h p (i + 1) = if isc (wR W) (wC W) i = true then (if (mTc W S c a x h p i).2 < sUnl W S c a x h (ixn (wC W) i) (wS W).toNat then (100 * h + nmi (wC W) (ixn (wC W) i), sUnl W S c a x h (ixn (wC W) i) (wS W).toNat) else mTc W S c a x h p i) else mTc W S c a x h p i := rfl
theorem mTc_36 {a x h : Int} {p : Int × Int} (hW : Wok W) : mTc W S c a x h p 36 = sTc2 W S c a x h p (wN W).toNat := by
  unfold mTc
  rw [fd_nm (g := fun (p : Int × Int) b => if p.2 < sUnl W S c a x h b (wS W).toNat then (100 * h + nmi (wC W) b, sUnl W S c a x h b (wS W).toNat) else p) hW.1 hW.2.1, ← hW.2.2.1]
  rfl
theorem tcm_48 {a x k h : Int} {n : Nat} {p : Int × Int} {QX : Nat → zH → Prop} (hW : Wok W) (hM : MW v W) (hR : TRp v W S c (ixn (wC W) a) n (wS W)) (hh : 0 ≤ h ∧ h ≤ n) (hn : n ≤ 24)
    (K : zJ l G 1 (d + 9) h_M_touch k_M_touch 115 Q QX 43 [(2, 77), (3, 0), (0, (n : Int)), (0, k), (0, x), (0, (sTc2 W S c (ixn (wC W) a) x h p (wN W).toNat).1), (0, (sTc2 W S c (ixn (wC W) a) x h p (wN W).toNat).2), (0, h + 1), (3, 0)] [] v 115) :
    ∀ (m i : Nat), i + m = 36 → zJ l G 1 (d + 9) h_M_touch k_M_touch 115 Q QX 48 [(2, 77), (3, 0), (0, (n : Int)), (0, k), (0, x), (0, (mTc W S c (ixn (wC W) a) x h p i).1), (0, (mTc W S c (ixn (wC W) a) x h p i).2), (0, h), (0, (i : Int))] [] v 115
  | m, i, hi => by
    match m, hi with
    | 0, hi =>
      have e : i = 36 := by omega
      subst e
      rw [mTc_36 hW]
      refine zgo ck_M_touch 300 48 _ _ _ _ rfl (sg_M_touch_48 ?_)
      try simp (disch := omega) only [zup_e, zup_ak, zup_j, Int.zero_add, Int.reduceAdd, mz78, mz79, mz80, mz81, mz82, mz83, mz84, mz85, mz86, mz87, mz88, mz89, mz90, mz91, mz92, mz93, mz94, mz95, mz96, mz97, mz98, mz99, mz100, mz101, mz102, mz103, mz104, mz105, mz106, mz107, mz108, mz109, mz110, mz111, mz112, mz113]
      refine ⟨fun q1 => ⟨⟨by first | decide | omega | contradiction | exact absurd trivial (by assumption), by first | decide | omega | contradiction | exact absurd trivial (by assumption)⟩, ?_⟩, fun q2 => ⟨by first | decide | omega | contradiction | exact absurd trivial (by assumption), ?_⟩⟩
      try (any_goals (exfalso; first | omega | exact absurd trivial (by assumption)))
      exact K
    | m + 1, hi =>
      have g := tcm_48 (QX := QX) hW hM hR hh hn K m (i + 1) (by omega)
      rw [mTc_s] at g
      generalize mTc W S c (ixn (wC W) a) x h p i = P at g ⊢
      refine zgo ck_M_touch 300 48 _ _ _ _ rfl (sg_M_touch_48 ?_)
      try simp (disch := omega) only [zup_e, zup_ak, zup_j, Int.zero_add, Int.reduceAdd, mz78, mz79, mz80, mz81, mz82, mz83, mz84, mz85, mz86, mz87, mz88, mz89, mz90, mz91, mz92, mz93, mz94, mz95, mz96, mz97, mz98, mz99, mz100, mz101, mz102, mz103, mz104, mz105, mz106, mz107, mz108, mz109, mz110, mz111, mz112, mz113]
      refine ⟨fun q1 => ⟨⟨by first | decide | omega | contradiction | exact absurd trivial (by assumption), by first | decide | omega | contradiction | exact absurd trivial (by assumption)⟩, ?_⟩, fun q2 => ⟨by first | decide | omega | contradiction | exact absurd trivial (by assumption), ?_⟩⟩
      try (any_goals (exfalso; first | omega | exact absurd trivial (by assumption)))
      refine m_cell hM ?_
      by_cases ho : isc (wR W) (wC W) i = true
      rotate_left
      · rw [if_neg ho] at g
        rw [if_neg ho]
        refine ⟨fun q1 => ⟨⟨by first | decide | omega | contradiction | exact absurd trivial (by assumption), by first | decide | omega | contradiction | exact absurd trivial (by assumption)⟩, ?_⟩, fun q2 => ⟨by first | decide | omega | contradiction | exact absurd trivial (by assumption), ?_⟩⟩
        try (any_goals (exfalso; first | omega | exact absurd trivial (by assumption)))
        exact g
      have x4 := (gE hW.1.2 hW.2.1 ho).2.2.2.2.1
      rw [if_pos ho, x4] at g
      rw [if_pos ho]
      refine ⟨fun q1 => ⟨⟨by first | decide | omega | contradiction | exact absurd trivial (by assumption), by first | decide | omega | contradiction | exact absurd trivial (by assumption)⟩, ?_⟩, fun q2 => ⟨by first | decide | omega | contradiction | exact absurd trivial (by assumption), ?_⟩⟩
      try (any_goals (exfalso; first | omega | exact absurd trivial (by assumption)))
      refine c_M_unlike hW hM hR hh (by omega) ho ?_
      by_cases hlt : P.2 < sUnl W S c (ixn (wC W) a) x h (ixn (wC W) i) (wS W).toNat
      · rw [if_pos hlt] at g
        refine ⟨fun q1 => ⟨⟨by first | decide | omega | contradiction | exact absurd trivial (by assumption), by first | decide | omega | contradiction | exact absurd trivial (by assumption)⟩, ?_⟩, fun q2 => ⟨⟨by first | decide | omega | contradiction | exact absurd trivial (by assumption), by first | decide | omega | contradiction | exact absurd trivial (by assumption)⟩, ⟨by first | decide | omega | contradiction | exact absurd trivial (by assumption), by first | decide | omega | contradiction | exact absurd trivial (by assumption)⟩, by first | decide | omega | contradiction | exact absurd trivial (by assumption), ?_⟩⟩
        try (any_goals (exfalso; first | omega | exact absurd trivial (by assumption)))
        refine c_M_unlike hW hM hR hh (by omega) ho ?_
        refine ⟨⟨by first | decide | omega | contradiction | exact absurd trivial (by assumption), by first | decide | omega | contradiction | exact absurd trivial (by assumption)⟩, ?_⟩
        exact g
      · rw [if_neg hlt] at g
        refine ⟨fun q1 => ⟨⟨by first | decide | omega | contradiction | exact absurd trivial (by assumption), by first | decide | omega | contradiction | exact absurd trivial (by assumption)⟩, ?_⟩, fun q2 => ⟨⟨by first | decide | omega | contradiction | exact absurd trivial (by assumption), by first | decide | omega | contradiction | exact absurd trivial (by assumption)⟩, ⟨by first | decide | omega | contradiction | exact absurd trivial (by assumption), by first | decide | omega | contradiction | exact absurd trivial (by assumption)⟩, by first | decide | omega | contradiction | exact absurd trivial (by assumption), ?_⟩⟩
        try (any_goals (exfalso; first | omega | exact absurd trivial (by assumption)))
        exact g
theorem tcm_43 {a x k : Int} {n : Nat} {QX : Nat → zH → Prop} (hW : Wok W) (hM : MW v W) (hR : TRp v W S c (ixn (wC W) a) n (wS W)) (hn : n ≤ 24) (K : Q (if k = 0 then (sTc1 W S c (ixn (wC W) a) x (n + 1)).1 else (sTc1 W S c (ixn (wC W) a) x (n + 1)).2) v) :
    ∀ (m i : Nat), i + m = n + 1 → zJ l G 1 (d + 9) h_M_touch k_M_touch 115 Q QX 43 [(2, 77), (3, 0), (0, (n : Int)), (0, k), (0, x), (0, (sTc1 W S c (ixn (wC W) a) x i).1), (0, (sTc1 W S c (ixn (wC W) a) x i).2), (0, (i : Int)), (3, 0)] [] v 115
  | m, i, hi => by
    match m, hi with
    | 0, hi =>
      have e : i = n + 1 := by omega
      subst e
      by_cases hk : k = 0
      · rw [if_pos hk] at K
        refine zgo ck_M_touch 300 43 _ _ _ _ rfl (sg_M_touch_43 ?_)
        try simp (disch := omega) only [zup_e, zup_ak, zup_j, Int.zero_add, Int.reduceAdd, mz78, mz79, mz80, mz81, mz82, mz83, mz84, mz85, mz86, mz87, mz88, mz89, mz90, mz91, mz92, mz93, mz94, mz95, mz96, mz97, mz98, mz99, mz100, mz101, mz102, mz103, mz104, mz105, mz106, mz107, mz108, mz109, mz110, mz111, mz112, mz113]
        refine ⟨fun q1 => ⟨fun q2 => ?_, fun q3 => ?_⟩, fun q4 => ?_⟩
        try (any_goals (exfalso; first | omega | exact absurd trivial (by assumption)))
        exact K
      · rw [if_neg hk] at K
        refine zgo ck_M_touch 300 43 _ _ _ _ rfl (sg_M_touch_43 ?_)
        try simp (disch := omega) only [zup_e, zup_ak, zup_j, Int.zero_add, Int.reduceAdd, mz78, mz79, mz80, mz81, mz82, mz83, mz84, mz85, mz86, mz87, mz88, mz89, mz90, mz91, mz92, mz93, mz94, mz95, mz96, mz97, mz98, mz99, mz100, mz101, mz102, mz103, mz104, mz105, mz106, mz107, mz108, mz109, mz110, mz111, mz112, mz113]
        refine ⟨fun q1 => ⟨fun q2 => ?_, fun q3 => ?_⟩, fun q4 => ?_⟩
        try (any_goals (exfalso; first | omega | exact absurd trivial (by assumption)))
        exact K
    | m + 1, hi =>
      have g := tcm_43 (QX := QX) hW hM hR hn K m (i + 1) (by omega)
      have es : sTc1 W S c (ixn (wC W) a) x (i + 1) = sTc2 W S c (ixn (wC W) a) x i (sTc1 W S c (ixn (wC W) a) x i) (wN W).toNat := rfl
      rw [es] at g
      refine zgo ck_M_touch 300 43 _ _ _ _ rfl (sg_M_touch_43 ?_)
      try simp (disch := omega) only [zup_e, zup_ak, zup_j, Int.zero_add, Int.reduceAdd, mz78, mz79, mz80, mz81, mz82, mz83, mz84, mz85, mz86, mz87, mz88, mz89, mz90, mz91, mz92, mz93, mz94, mz95, mz96, mz97, mz98, mz99, mz100, mz101, mz102, mz103, mz104, mz105, mz106, mz107, mz108, mz109, mz110, mz111, mz112, mz113]
      refine ⟨fun q1 => ⟨fun q2 => ?_, fun q3 => ?_⟩, fun q4 => ?_⟩
      try (any_goals (exfalso; first | omega | exact absurd trivial (by assumption)))
      exact tcm_48 (p := sTc1 W S c (ixn (wC W) a) x i) hW hM hR (by omega) hn g 36 0 (by omega)
theorem tcm_26 {a x k : Int} {n : Nat} {v0 : zH} {QX : Nat → zH → Prop} (ha : isc (wR W) (wC W) a = true) (hn : n ≤ 24) (K : ∀ v' : zH, Fz v0 v' → QM v' W c S → Q (if k = 0 then (sTc1 W S c (ixn (wC W) a) x (n + 1)).1 else (sTc1 W S c (ixn (wC W) a) x (n + 1)).2) v') :
    ∀ (m i : Nat) {v : zH}, (i : Int) + m = wS W → Fz v0 v → QM v W c S → TRp v W S c (ixn (wC W) a) n i → zJ l G 1 (d + 9) h_M_touch k_M_touch 115 Q QX 26 [(2, 77), (0, a), (0, (n : Int)), (0, k), (0, x), (0, (i : Int)), (3, 0), (3, 0), (3, 0)] [] v 115
  | m, i, v, hi, hF, hQ, hR => by
    obtain ⟨hW, hM, hc, -⟩ := id hQ.1
    have h4 := hW.2.2.2.2.2.2.1
    match m, hi with
    | 0, hi =>
      have e : (i : Int) = wS W := by omega
      rw [e] at hR
      refine zgo ck_M_touch 300 26 _ _ _ _ rfl (sg_M_touch_26 ?_)
      try simp (disch := omega) only [zup_e, zup_ak, zup_j, Int.zero_add, Int.reduceAdd, mz78, mz79, mz80, mz81, mz82, mz83, mz84, mz85, mz86, mz87, mz88, mz89, mz90, mz91, mz92, mz93, mz94, mz95, mz96, mz97, mz98, mz99, mz100, mz101, mz102, mz103, mz104, mz105, mz106, mz107, mz108, mz109, mz110, mz111, mz112, mz113, hM.1]
      refine ⟨by first | decide | omega | contradiction | exact absurd trivial (by assumption), ⟨fun q1 => ?_, fun q2 => ⟨by first | decide | omega | contradiction | exact absurd trivial (by assumption), ?_⟩⟩⟩
      try (any_goals (exfalso; first | omega | exact absurd trivial (by assumption)))
      exact tcm_43 hW hM hR hn (K v hF hQ) (n + 1) 0 (by omega)
    | m + 1, hi =>
      refine zgo ck_M_touch 300 26 _ _ _ _ rfl (sg_M_touch_26 ?_)
      try simp (disch := omega) only [zup_e, zup_ak, zup_j, Int.zero_add, Int.reduceAdd, mz78, mz79, mz80, mz81, mz82, mz83, mz84, mz85, mz86, mz87, mz88, mz89, mz90, mz91, mz92, mz93, mz94, mz95, mz96, mz97, mz98, mz99, mz100, mz101, mz102, mz103, mz104, mz105, mz106, mz107, mz108, mz109, mz110, mz111, mz112, mz113, hM.1]
      refine ⟨by first | decide | omega | contradiction | exact absurd trivial (by assumption), ⟨fun q1 => ?_, fun q2 => ⟨by first | decide | omega | contradiction | exact absurd trivial (by assumption), ?_⟩⟩⟩
      try (any_goals (exfalso; first | omega | exact absurd trivial (by assumption)))
      refine c_M_tryOut (s := (i : Int)) hQ ha (by omega) hn (fun v1 f1 f2 f3 f4 => ?_)
      refine ⟨⟨by first | decide | omega | contradiction | exact absurd trivial (by assumption), by first | decide | omega | contradiction | exact absurd trivial (by assumption)⟩, ?_⟩
      refine tcm_26 ha hn K m (i + 1) (by omega) (Fz_tr hF f1) f2 (fun s h o s1 s2 h1 h2 ho => ?_)
      have h36 := is36 hW ho
      by_cases e : s = i
      · rw [e]
        exact f3 h o h1 h2 ho
      · rw [f4 _ (by omega)]
        exact hR s h o s1 (by omega) h1 h2 ho
theorem c_M_touch {a n k : Int} (hQ : QM v W c S) (hT : Tok W T) (hS : MTo v W T) (K : ∀ v' : zH, Fz v v' → QM v' W c S → Q (aTouch W S c T a n k) v') : zC l G 1 (d + 9) h_M_touch [(2, 77), (0, a), (0, n), (0, k)] v 115 Q := by
  obtain ⟨hW, hM, hc, -⟩ := id hQ.1
  have h4 := hW.2.2.2.2.2.2.1
  unfold aTouch at K
  refine zC_at ok_M_touch ck_M_touch rfl rfl (sg_M_touch_0 ?_)
  try simp (disch := omega) only [zup_e, zup_ak, zup_j, Int.zero_add, Int.reduceAdd, mz78, mz79, mz80, mz81, mz82, mz83, mz84, mz85, mz86, mz87, mz88, mz89, mz90, mz91, mz92, mz93, mz94, mz95, mz96, mz97, mz98, mz99, mz100, mz101, mz102, mz103, mz104, mz105, mz106, mz107, mz108, mz109, mz110, mz111, mz112, mz113]
  refine ⟨by first | decide | omega | contradiction | exact absurd trivial (by assumption), ?_⟩
  try (any_goals (exfalso; first | omega | exact absurd trivial (by assumption)))
  refine m_cell hM ?_
  by_cases ha : isc (wR W) (wC W) a = true
  rotate_left
  · rw [if_neg ha]
    rw [if_neg (fun q => ha q.1)] at K
    refine ⟨fun q1 => ?_, fun q2 => ?_⟩
    try (any_goals (exfalso; first | omega | exact absurd trivial (by assumption)))
    exact K v Fz_rf hQ
  rw [if_pos ha]
  refine ⟨fun q1 => ?_, fun q2 => ?_⟩
  try (any_goals (exfalso; first | omega | exact absurd trivial (by assumption)))
  refine c_M_in ?_
  by_cases hn : 0 ≤ n ∧ n ≤ 24
  rotate_left
  · rw [if_neg hn]
    rw [if_neg (fun q => hn q.2.1)] at K
    refine ⟨fun q1 => ?_, fun q2 => ?_⟩
    try (any_goals (exfalso; first | omega | exact absurd trivial (by assumption)))
    exact K v Fz_rf hQ
  rw [if_pos hn]
  refine ⟨fun q1 => ?_, fun q2 => ?_⟩
  try (any_goals (exfalso; first | omega | exact absurd trivial (by assumption)))
  refine c_M_in ?_
  by_cases hk : 0 ≤ k ∧ k ≤ 1
  rotate_left
  · rw [if_neg hk]
    rw [if_neg (fun q => hk q.2.2)] at K
    refine ⟨fun q1 => ⟨by first | decide | omega | contradiction | exact absurd trivial (by assumption), ?_⟩, fun q2 => ?_⟩
    try (any_goals (exfalso; first | omega | exact absurd trivial (by assumption)))
    exact K v Fz_rf hQ
  rw [if_pos hk]
  rw [if_pos ⟨ha, hn, hk⟩] at K
  refine ⟨fun q1 => ⟨by first | decide | omega | contradiction | exact absurd trivial (by assumption), ?_⟩, fun q2 => ?_⟩
  try (any_goals (exfalso; first | omega | exact absurd trivial (by assumption)))
  refine c_M_fitsOf hQ hT hS ha (fun v1 y1 y2 => ?_)
  by_cases h0 : sFit W S c T (ixn (wC W) a) (wS W).toNat = 0
  · rw [if_pos h0] at K
    refine ⟨fun q1 => ?_, fun q2 => ?_⟩
    try (any_goals (exfalso; first | omega | exact absurd trivial (by assumption)))
    exact K v1 y1 y2
  · rw [if_neg h0] at K
    obtain ⟨m, rfl⟩ : ∃ m : Nat, n = m := ⟨n.toNat, by omega⟩
    refine ⟨fun q1 => ?_, fun q2 => ?_⟩
    try (any_goals (exfalso; first | omega | exact absurd trivial (by assumption)))
    exact tcm_26 ha (by omega) (fun v2 z1 z2 => K v2 (Fz_tr y1 z1) z2) (wS W).toNat 0 (by omega) Fz_rf y2 (fun s h o s1 s2 => by omega)
end
