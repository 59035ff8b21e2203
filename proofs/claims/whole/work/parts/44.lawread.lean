/-! THE CLASS: a law read: sums -/
/-- what is needed of a reader: places and lengths -/
def pGl (X : zTp) (item : zPs) : Prop := ∀ p : Int, 0 ≤ p → p ≤ X.2 → (∀ e, item p = .error e → p ≤ e ∧ e ≤ X.2) ∧ (∀ q t, item p = .ok (q, t) → p < q ∧ q ≤ X.2 ∧ (t.length : Int) ≤ q - p)
theorem pGd_l {X : zTp} {item : zPs} {b : Bool} (h : pGd X item b) : pGl X item := fun p h0 h1 => ⟨(h p h0 h1).1, fun q t e => by
  obtain ⟨a1, a2, a3, -⟩ := (h p h0 h1).2 q t e
  exact ⟨a1, a2, a3⟩⟩
theorem pStar_fl {X : zTp} {sep : Int → Bool} {item : zPs} (hs : ∀ k : Int, sep k = true → 0 ≤ k) (hi : pGl X item) : ∀ (f g : Nat) (p : Int) (acc : List Int), 0 ≤ p → p ≤ X.2 → X.2 - p < f → X.2 - p < g → pStar X sep item f p acc = pStar X sep item g p acc
  | 0, g, p, acc, h0, h1, h2, h3 => by omega
  | f + 1, 0, p, acc, h0, h1, h2, h3 => by omega
  | f + 1, g + 1, p, acc, h0, h1, h2, h3 => by
    have hb := pS_b (X := X) p
    unfold pStar
    split
    · rename_i hk
      have hlt := pC_lt (hs _ hk)
      obtain ⟨i1, i2⟩ := hi (pS X p + 1) (by omega) (by omega)
      split
      · rfl
      · rename_i q t he
        obtain ⟨g1, g2, g3⟩ := i2 q t he
        exact pStar_fl hs hi f g q _ (by omega) g2 (by omega) (by omega)
    · rfl
theorem pTl_1 {X : zTp} {sep : Int → Bool} {item : zPs} {p : Int} {acc : List Int} (hs : ∀ k : Int, sep k = true → 0 ≤ k) (hi : pGl X item) (h0 : 0 ≤ p) (h1 : p ≤ X.2) : pTl X sep item p acc = if sep (pC X p) then (match item (pS X p + 1) with
    | .error e => .error e
    | .ok (q, t) => pTl X sep item q (acc ++ t ++ [-(pC X p)])) else .ok (pS X p, acc) := by
  have hb := pS_b (X := X) p
  have e : pTl X sep item p acc = if sep (pC X p) then (match item (pS X p + 1) with
    | .error e => .error e
    | .ok (q, t) => pStar X sep item (X.2 - p).toNat q (acc ++ t ++ [-(pC X p)])) else .ok (pS X p, acc) := rfl
  rw [e]
  by_cases hk : sep (pC X p) = true
  · rw [if_pos hk, if_pos hk]
    have hlt := pC_lt (hs _ hk)
    obtain ⟨i1, i2⟩ := hi (pS X p + 1) (by omega) (by omega)
    cases he : item (pS X p + 1) with
    | error e => rfl
    | ok x =>
      obtain ⟨q, t⟩ := x
      obtain ⟨g1, g2, g3⟩ := i2 q t he
      exact pStar_fl hs hi (X.2 - p).toNat ((X.2 - q).toNat + 1) q _ (by omega) g2 (by omega) (by omega)
  · rw [if_neg hk, if_neg hk]
theorem pStar_acc {X : zTp} {sep : Int → Bool} {item : zPs} {a : List Int} : ∀ (f : Nat) (p : Int) (acc : List Int), pStar X sep item f p (a ++ acc) = match pStar X sep item f p acc with
    | .error e => .error e
    | .ok (q, t) => .ok (q, a ++ t)
  | 0, p, acc => rfl
  | f + 1, p, acc => by
    unfold pStar
    split
    · split
      · rfl
      · rename_i q t he
        rw [List.append_assoc a, List.append_assoc a]
        exact pStar_acc f q _
    · rfl
theorem pTl_acc {X : zTp} {sep : Int → Bool} {item : zPs} {a : List Int} {p : Int} {acc : List Int} : pTl X sep item p (a ++ acc) = match pTl X sep item p acc with
    | .error e => .error e
    | .ok (q, t) => .ok (q, a ++ t) := pStar_acc _ _ _
theorem CR_upd {v : zH} {a j x : Int} : ∀ (s : List Int) (p : Int), p + s.length ≤ j → CR v a p s → CR (zupd v a j x) a p s
  | [], _, _, _ => trivial
  | y :: s, p, h, ⟨h1, h2⟩ => by
    simp only [List.length_cons] at h
    refine ⟨?_, CR_upd s (p + 1) (by omega) h2⟩
    rw [zup_j (by omega)]
    exact h1
def Fx (L : Int) (v v' : zH) : Prop := ∀ b : Int, b ≠ 4 → b ≠ L → b ≠ L + 1 → v' b = v b
theorem Fx_rf {L : Int} {v : zH} : Fx L v v := fun _ _ _ _ => rfl
theorem Fx_tr {L : Int} {u v x : zH} (h : Fx L u v) (g : Fx L v x) : Fx L u x := fun b q0 q1 q2 => (g b q0 q1 q2).trans (h b q0 q1 q2)
theorem Fx_4 {L : Int} {v v' : zH} (h : ∀ b : Int, b ≠ 4 → v' b = v b) : Fx L v v' := fun b q _ _ => h b q
theorem Fx_L {L : Int} {v v' : zH} (h : ∀ b : Int, b ≠ L → b ≠ L + 1 → v' b = v b) : Fx L v v' := fun b _ q r => h b q r
theorem Fx_TP {L : Int} {v v' : zH} {X : zTp} (hL : zlo L) (h : Fx L v v') (hX : TP v X) : TP v' X := TP_fr (fun a q => by
  have : 9 ≤ L := by rcases hL with rfl | rfl | rfl | rfl | rfl <;> omega
  exact h a (by omega) (by omega) (by omega)) hX
theorem LW_4 {v v' : zH} {L : Int} {ts : List Int} (hL : zlo L) (h : ∀ b : Int, b ≠ 4 → v' b = v b) (k : LW v L ts) : LW v' L ts := by
  have h9 : 9 ≤ L := by rcases hL with rfl | rfl | rfl | rfl | rfl <;> omega
  obtain ⟨k1, k2, k3⟩ := k
  have e0 := h L (by omega)
  have e1 := h (L + 1) (by omega)
  exact ⟨by rw [e0]; exact k1, CR_fr e1 _ _ k2, by rw [e0]; exact k3⟩
def pSep2 (X : zTp) (sep : Int → Bool) (item0 item : zPs) : zPs := fun p => match item0 p with
  | .error e => .error e
  | .ok (q, t) => pTl X sep item q t
def pUnitB (X : zTp) (s : zPs) : zPs := fun p => pCmp X s p []
/-- a method that reads on: its contract -/
def LRc (l : Launch) (G : zG) (X : zTp) (D : Nat) (h : zHdr) (As : List zV) (it : zPs) : Prop :=
  ∀ (L : Int) (ts : List Int) (p : Int) (v : zH) (Q : Int → zH → Prop), zlo L → TP v X → LW v L ts → v 4 1 = p → 0 ≤ p → p ≤ X.2 → (ts.length : Int) ≤ p →
  (∀ (e : Int) (v' : zH), it p = .error e → Fx L v v' → v' 4 1 = e → Q 0 v') → (∀ (q : Int) (t : List Int) (v' : zH), it p = .ok (q, t) → Fx L v v' → v' 4 1 = q → LW v' L (ts ++ t) → Q 1 v') → zC l G 1 D h ((2, 4) :: (2, L) :: As) v 115 Q
section
variable {l : Launch} {G : zG} {d : Nat} {v : zH} {Q : Int → zH → Prop}
theorem c_LR_compares {x : Int} (K : Q (if isCmp x = true then 1 else 0) v) : zC l G 1 (d + 1) h_LR_compares [(0, x)] v 115 Q := by
  have hc := isCmp_iff (k := x)
  by_cases h : isCmp x = true
  · rw [if_pos h] at K
    rw [hc] at h
    refine zC_at ok_LR_compares ck_LR_compares rfl rfl (sg_LR_compares_0 ?_)
    refine ⟨fun q1 => ⟨by first | decide | omega, ?_⟩, fun q2 => ⟨fun q3 => ⟨by first | decide | omega, ?_⟩, fun q4 => ⟨fun q5 => ⟨by first | decide | omega, ?_⟩, fun q6 => ⟨by first | decide | omega, ?_⟩⟩⟩⟩
    try (any_goals (exfalso; first | omega | exact absurd trivial (by assumption)))
    all_goals exact K
  · rw [if_neg h] at K
    rw [hc] at h
    refine zC_at ok_LR_compares ck_LR_compares rfl rfl (sg_LR_compares_0 ?_)
    refine ⟨fun q1 => ⟨by first | decide | omega, ?_⟩, fun q2 => ⟨fun q3 => ⟨by first | decide | omega, ?_⟩, fun q4 => ⟨fun q5 => ⟨by first | decide | omega, ?_⟩, fun q6 => ⟨by first | decide | omega, ?_⟩⟩⟩⟩
    try (any_goals (exfalso; first | omega | exact absurd trivial (by assumption)))
    exact K
theorem c_La_addNumber {L x : Int} {ts : List Int} (hL : zlo L) (hW : LW v L ts) (hn : ts.length < 160) (K : ∀ v' : zH, (∀ b : Int, b ≠ L → b ≠ L + 1 → v' b = v b) → v' L 2 = ts.length + 1 → CR v' (L + 1) 0 (ts ++ [x]) → v' L 3 = v L 3 → Q 0 v') : zC l G 1 (d + 1) h_La_addNumber [(2, L), (0, x)] v 115 Q := by
  obtain ⟨f1, f2, f3, f4, f5⟩ := zlo_f hL
  obtain ⟨k1, k2, k3⟩ := hW
  refine zC_at ok_La_addNumber ck_La_addNumber rfl rfl (sg_La_addNumber_0 ?_)
  simp (disch := omega) only [zup_ak, k1]
  refine ⟨by first | decide | omega, by first | decide | omega, by first | decide | omega, ⟨fun q1 => ?_, fun q2 => ⟨by first | decide | omega, by first | decide | omega, by first | decide | omega, ⟨by first | decide | omega, by first | decide | omega⟩, by first | decide | omega, ⟨by first | decide | omega, by first | decide | omega⟩, by first | decide | omega, ?_⟩⟩⟩
  try (any_goals (exfalso; first | omega | exact absurd trivial (by assumption)))
  refine K _ (fun b b1 b2 => (zup_a b1).trans (zup_a b2)) zup_s ?_ ?_
  · have e : ∀ j, (zupd (zupd v (L + 1) ts.length x) L 2 ((ts.length : Int) + 1)) (L + 1) j = (zupd v (L + 1) ts.length x) (L + 1) j := fun j => by rw [zup_a (by omega)]
    refine CR_fr (zup_a (by omega)) _ _ ((CR_app ts [x] 0).mpr ⟨CR_upd ts 0 (by omega) k2, ?_, trivial⟩)
    exact zup_e rfl (by omega)
  · rw [zup_j (by omega), zup_a (by omega)]
theorem LW_num {v' : zH} {L x : Int} {ts : List Int} (hW : LW v L ts) (hx : x ≠ -100) (h2 : v' L 2 = ts.length + 1) (hc : CR v' (L + 1) 0 (ts ++ [x])) (h3 : v' L 3 = v L 3) : LW v' L (ts ++ [x]) := by
  refine ⟨?_, hc, ?_⟩
  · rw [h2]; simp
  · rw [h3, hW.2.2]
    have : (-100 ∈ ts ++ [x]) ↔ -100 ∈ ts := by
      rw [List.mem_append, List.mem_singleton]
      exact ⟨fun q => q.elim id (fun r => absurd r.symm hx), Or.inl⟩
    simp only [this]
theorem c_La_addSign {L k : Int} {ts : List Int} (hL : zlo L) (hW : LW v L ts) (hn : ts.length < 160) (hk : 0 ≤ k ∧ k ≤ 255) (K : ∀ v' : zH, (∀ b : Int, b ≠ L → b ≠ L + 1 → v' b = v b) → LW v' L (ts ++ [-k]) → Q 0 v') : zC l G 1 (d + 2) h_La_addSign [(2, L), (0, k)] v 115 Q := by
  obtain ⟨f1, f2, f3, f4, f5⟩ := zlo_f hL
  refine zC_at ok_La_addSign ck_La_addSign rfl rfl (sg_La_addSign_0 ?_)
  refine ⟨⟨by first | decide | omega, by first | decide | omega⟩, by first | decide | omega, ?_⟩
  try (any_goals (exfalso; first | omega | exact absurd trivial (by assumption)))
  refine c_La_addNumber hL hW hn (fun v1 n1 n2 n3 n4 => ?_)
  by_cases h : k = 100
  · refine ⟨fun q1 => ?_, fun q2 => ⟨by first | decide | omega, by first | decide | omega, ?_⟩⟩
    try (any_goals (exfalso; first | omega | exact absurd trivial (by assumption)))
    refine K _ (fun b b1 b2 => (zup_a b1).trans (n1 b b1 b2)) ⟨?_, CR_fr (zup_a (by omega)) _ _ n3, ?_⟩
    · rw [zup_j (by omega), n2]; simp
    · rw [zup_s, if_pos]
      rw [List.mem_append, List.mem_singleton]
      exact Or.inr (by omega)
  · refine ⟨fun q1 => ?_, fun q2 => ⟨by first | decide | omega, by first | decide | omega, ?_⟩⟩
    try (any_goals (exfalso; first | omega | exact absurd trivial (by assumption)))
    exact K v1 n1 (LW_num hW (by omega) n2 n3 n4)
theorem LR_term_4 {X : zTp} {k D : Nat} {j : Int} {L : Int} {ts : List Int} {v0 : zH} {R : zPx (List Int)} {QX : Nat → zH → Prop} (hk : k ≤ 6) (ht : tOk X) (hat : LRc l G X (D + 2) h_LR_atom [(0, j)] (pAtom X (pBr X k))) (hL : zlo L)
    (Ke : ∀ (e : Int) (v' : zH), R = .error e → Fx L v0 v' → v' 4 1 = e → Q 0 v') (Ko : ∀ (q : Int) (t : List Int) (v' : zH), R = .ok (q, t) → Fx L v0 v' → v' 4 1 = q → LW v' L (ts ++ t) → Q 1 v') :
    ∀ (m : Nat) {v : zH} {pl i s : Int} {acc pend : List Int}, X.2 - pl < m → TP v X → Fx L v0 v → LW v L (ts ++ acc) → v 4 1 = pl → 0 ≤ pl → pl ≤ X.2 → 0 ≤ i → i ≤ pl → ((ts.length : Int) + acc.length + pend.length ≤ pl) → (i = 0 → pend = []) → (i ≠ 0 → pend = [-s] ∧ (s = 42 ∨ s = 47)) → R = (match pAtom X (pBr X k) pl with
      | .error e => .error e
      | .ok (q, t) => pTl X isTm (pAtom X (pBr X k)) q (acc ++ t ++ pend)) →
    zJ l G 1 (D + 3) h_LR_term k_LR_term 115 Q QX 4 [(2, 4), (2, L), (0, j), (0, s), (0, i)] [] v 115
  | 0, v, pl, i, s, acc, pend, hm, hX, hF, hW, hp, h0, h1, hi0, hi, hlen, hp0, hp1, hR => by omega
  | m + 1, v, pl, i, s, acc, pend, hm, hX, hF, hW, hp, h0, h1, hi0, hi, hlen, hp0, hp1, hR => by
    have hn1 := ht.1
    obtain ⟨f1, f2, f3, f4, f5⟩ := zlo_f hL
    have e41 : (4 + (-3) : Int) = 1 := rfl
    have hgd0 : pGl X (pAtom X (pBr X k)) := pGd_l (b := false) (pAtom_gd (pBr_gd (X := X) k))
    have hgd := hgd0 pl h0 h1
    refine zgo ck_LR_term 300 4 _ _ _ _ rfl (sg_LR_term_4 ?_)
    simp only [e41, hX.1]
    refine ⟨by first | decide | omega, by first | decide | omega, ⟨fun q1 => ⟨by first | decide | omega, ?_⟩, fun q2 => ⟨by first | decide | omega, ?_⟩⟩⟩
    try (any_goals (exfalso; first | omega | exact absurd trivial (by assumption)))
    refine hat L (ts ++ acc) pl v _ hL hX hW hp h0 h1 (by simp; omega) (fun e v1 n1 n2 n3 => ?_) (fun q t v1 n1 n2 n3 n4 => ?_)
    · rw [n1] at hR
      refine ⟨fun q1 => ⟨fun q2 => ⟨by first | decide | omega, ?_⟩, fun q3 => ⟨by first | decide | omega, ?_⟩⟩, fun q4 => ⟨by first | decide | omega, ?_⟩⟩
      try (any_goals (exfalso; first | omega | exact absurd trivial (by assumption)))
      exact Ke e v1 hR (Fx_tr hF n2) n3
    obtain ⟨g1, g2, g3⟩ := hgd.2 q t n1
    rw [n1] at hR
    simp only at hR
    rw [pTl_1 (fun _ h => (sep_tm h).1) hgd0 (by omega) g2] at hR
    have hb := pS_b (X := X) q
    by_cases hi1 : i = 0
    · have hpe := hp0 hi1
      refine ⟨fun q1 => ⟨fun q2 => ⟨by first | decide | omega, ?_⟩, fun q3 => ⟨by first | decide | omega, ?_⟩⟩, fun q4 => ⟨by first | decide | omega, ?_⟩⟩
      try (any_goals (exfalso; first | omega | exact absurd trivial (by assumption)))
      have hq2 := n3
      have hX2 := Fx_TP hL n2 hX
      have hF2 := Fx_tr hF n2
      have hW2 : LW v1 L (ts ++ (acc ++ t ++ pend)) := by rw [hpe, List.append_nil, ← List.append_assoc]; exact n4
      refine c_LR_sign ht hX2 hq2 (by omega) g2 (fun v3 s1 s2 => ?_)
      have hW3 := LW_4 hL s1 hW2
      have hF3 := Fx_tr hF2 (Fx_4 s1)
      simp only [s2]
      by_cases hsep : isTm (pC X q) = true
      · rw [if_pos hsep] at hR
        have hc : pC X q = 42 ∨ pC X q = 47 := by simpa [isTm] using hsep
        have hlt := pC_lt (X := X) (p := q) (by omega)
        have go := LR_term_4 (QX := QX) hk ht hat hL Ke Ko m (v := zupd v3 4 1 (pS X q + 1)) (pl := pS X q + 1) (i := i + 1) (s := pC X q) (acc := acc ++ t ++ pend) (pend := [-(pC X q)]) (by omega) (Fx_TP hL (Fx_tr (Fx_4 s1) (Fx_4 (fun b q => zup_a q))) hX2) (Fx_tr hF3 (Fx_4 (fun b q => zup_a q))) (LW_4 hL (fun b q => zup_a q) hW3) (zup_e rfl rfl) (by omega) (by omega) (by omega) (by omega) (by simp; omega) (fun r => by omega) (fun _ => ⟨rfl, hc⟩) hR
        rcases hc with hc | hc
        · refine ⟨fun q1 => ⟨by first | decide | omega, ⟨by first | decide | omega, by first | decide | omega⟩, by first | decide | omega, ⟨by first | decide | omega, by first | decide | omega⟩, ?_⟩, fun q2 => ⟨fun q3 => ⟨by first | decide | omega, ⟨by first | decide | omega, by first | decide | omega⟩, by first | decide | omega, ⟨by first | decide | omega, by first | decide | omega⟩, ?_⟩, fun q4 => ⟨by first | decide | omega, ?_⟩⟩⟩
          try (any_goals (exfalso; first | omega | exact absurd trivial (by assumption)))
          exact go
        · refine ⟨fun q1 => ⟨by first | decide | omega, ⟨by first | decide | omega, by first | decide | omega⟩, by first | decide | omega, ⟨by first | decide | omega, by first | decide | omega⟩, ?_⟩, fun q2 => ⟨fun q3 => ⟨by first | decide | omega, ⟨by first | decide | omega, by first | decide | omega⟩, by first | decide | omega, ⟨by first | decide | omega, by first | decide | omega⟩, ?_⟩, fun q4 => ⟨by first | decide | omega, ?_⟩⟩⟩
          try (any_goals (exfalso; first | omega | exact absurd trivial (by assumption)))
          exact go
      · rw [if_neg hsep] at hR
        have hc : ¬ (pC X q = 42 ∨ pC X q = 47) := fun r => hsep (by simpa [isTm] using r)
        refine ⟨fun q1 => ⟨by first | decide | omega, ⟨by first | decide | omega, by first | decide | omega⟩, by first | decide | omega, ⟨by first | decide | omega, by first | decide | omega⟩, ?_⟩, fun q2 => ⟨fun q3 => ⟨by first | decide | omega, ⟨by first | decide | omega, by first | decide | omega⟩, by first | decide | omega, ⟨by first | decide | omega, by first | decide | omega⟩, ?_⟩, fun q4 => ⟨by first | decide | omega, ?_⟩⟩⟩
        try (any_goals (exfalso; first | omega | exact absurd trivial (by assumption)))
        exact Ko _ _ v3 hR hF3 s2 hW3
    · obtain ⟨hpe, hss⟩ := hp1 hi1
      have hlp : pend.length = 1 := by rw [hpe]; rfl
      refine ⟨fun q1 => ⟨fun q2 => ⟨by first | decide | omega, ?_⟩, fun q3 => ⟨by first | decide | omega, ?_⟩⟩, fun q4 => ⟨by first | decide | omega, ?_⟩⟩
      try (any_goals (exfalso; first | omega | exact absurd trivial (by assumption)))
      refine c_La_addSign hL n4 (by simp; omega) (by omega) (fun v2 m1 m2 => ?_)
      have hq2 : v2 4 1 = q := (congrFun (m1 4 (by rcases hL with rfl | rfl | rfl | rfl | rfl <;> omega) (by rcases hL with rfl | rfl | rfl | rfl | rfl <;> omega)) 1).trans n3
      have hX2 := Fx_TP hL (Fx_tr n2 (Fx_L m1)) hX
      have hF2 := Fx_tr hF (Fx_tr n2 (Fx_L m1))
      have hW2 : LW v2 L (ts ++ (acc ++ t ++ pend)) := by rw [hpe, ← List.append_assoc, ← List.append_assoc]; exact m2
      refine ⟨by first | decide | omega, ?_⟩
      try (any_goals (exfalso; first | omega | exact absurd trivial (by assumption)))
      refine c_LR_sign ht hX2 hq2 (by omega) g2 (fun v3 s1 s2 => ?_)
      have hW3 := LW_4 hL s1 hW2
      have hF3 := Fx_tr hF2 (Fx_4 s1)
      simp only [s2]
      by_cases hsep : isTm (pC X q) = true
      · rw [if_pos hsep] at hR
        have hc : pC X q = 42 ∨ pC X q = 47 := by simpa [isTm] using hsep
        have hlt := pC_lt (X := X) (p := q) (by omega)
        have go := LR_term_4 (QX := QX) hk ht hat hL Ke Ko m (v := zupd v3 4 1 (pS X q + 1)) (pl := pS X q + 1) (i := i + 1) (s := pC X q) (acc := acc ++ t ++ pend) (pend := [-(pC X q)]) (by omega) (Fx_TP hL (Fx_tr (Fx_4 s1) (Fx_4 (fun b q => zup_a q))) hX2) (Fx_tr hF3 (Fx_4 (fun b q => zup_a q))) (LW_4 hL (fun b q => zup_a q) hW3) (zup_e rfl rfl) (by omega) (by omega) (by omega) (by omega) (by simp; omega) (fun r => by omega) (fun _ => ⟨rfl, hc⟩) hR
        rcases hc with hc | hc
        · refine ⟨fun q1 => ⟨by first | decide | omega, ⟨by first | decide | omega, by first | decide | omega⟩, by first | decide | omega, ⟨by first | decide | omega, by first | decide | omega⟩, ?_⟩, fun q2 => ⟨fun q3 => ⟨by first | decide | omega, ⟨by first | decide | omega, by first | decide | omega⟩, by first | decide | omega, ⟨by first | decide | omega, by first | decide | omega⟩, ?_⟩, fun q4 => ⟨by first | decide | omega, ?_⟩⟩⟩
          try (any_goals (exfalso; first | omega | exact absurd trivial (by assumption)))
          exact go
        · refine ⟨fun q1 => ⟨by first | decide | omega, ⟨by first | decide | omega, by first | decide | omega⟩, by first | decide | omega, ⟨by first | decide | omega, by first | decide | omega⟩, ?_⟩, fun q2 => ⟨fun q3 => ⟨by first | decide | omega, ⟨by first | decide | omega, by first | decide | omega⟩, by first | decide | omega, ⟨by first | decide | omega, by first | decide | omega⟩, ?_⟩, fun q4 => ⟨by first | decide | omega, ?_⟩⟩⟩
          try (any_goals (exfalso; first | omega | exact absurd trivial (by assumption)))
          exact go
      · rw [if_neg hsep] at hR
        have hc : ¬ (pC X q = 42 ∨ pC X q = 47) := fun r => hsep (by simpa [isTm] using r)
        refine ⟨fun q1 => ⟨by first | decide | omega, ⟨by first | decide | omega, by first | decide | omega⟩, by first | decide | omega, ⟨by first | decide | omega, by first | decide | omega⟩, ?_⟩, fun q2 => ⟨fun q3 => ⟨by first | decide | omega, ⟨by first | decide | omega, by first | decide | omega⟩, by first | decide | omega, ⟨by first | decide | omega, by first | decide | omega⟩, ?_⟩, fun q4 => ⟨by first | decide | omega, ?_⟩⟩⟩
        try (any_goals (exfalso; first | omega | exact absurd trivial (by assumption)))
        exact Ko _ _ v3 hR hF3 s2 hW3
theorem c_LR_term {X : zTp} {k D : Nat} {j : Int} (hk : k ≤ 6) (hj : 0 ≤ j ∧ j ≤ 6) (ht : tOk X) (hat : LRc l G X (D + 2) h_LR_atom [(0, j)] (pAtom X (pBr X k))) : LRc l G X (D + 3) h_LR_term [(0, j)] (pTerm X (pBr X k)) := by
  intro L ts p v Q hL hX hW hp h0 h1 hts Ke Ko
  obtain ⟨f1, f2, f3, f4, f5⟩ := zlo_f hL
  refine zC_at ok_LR_term ck_LR_term rfl rfl (sg_LR_term_0 ?_)
  refine LR_term_4 hk ht hat hL Ke Ko ((X.2 - p).toNat + 1) (acc := []) (pend := []) (by omega) hX Fx_rf (by rw [List.append_nil]; exact hW) hp h0 h1 (by omega) (by omega) (by simp; exact hts) (fun _ => rfl) (fun r => absurd rfl r) ?_
  simp only [List.nil_append, List.append_nil]
  rfl
theorem LR_sum_4 {X : zTp} {k D : Nat} {j : Int} {L : Int} {ts : List Int} {v0 : zH} {R : zPx (List Int)} {QX : Nat → zH → Prop} (hk : k ≤ 6) (ht : tOk X) (hat : LRc l G X (D + 2) h_LR_term [(0, j)] (pTerm X (pBr X k))) (hL : zlo L)
    (Ke : ∀ (e : Int) (v' : zH), R = .error e → Fx L v0 v' → v' 4 1 = e → Q 0 v') (Ko : ∀ (q : Int) (t : List Int) (v' : zH), R = .ok (q, t) → Fx L v0 v' → v' 4 1 = q → LW v' L (ts ++ t) → Q 1 v') :
    ∀ (m : Nat) {v : zH} {pl i s : Int} {acc pend : List Int}, X.2 - pl < m → TP v X → Fx L v0 v → LW v L (ts ++ acc) → v 4 1 = pl → 0 ≤ pl → pl ≤ X.2 → 0 ≤ i → i ≤ pl → ((ts.length : Int) + acc.length + pend.length ≤ pl) → (i = 0 → pend = []) → (i ≠ 0 → pend = [-s] ∧ (s = 43 ∨ s = 45)) → R = (match pTerm X (pBr X k) pl with
      | .error e => .error e
      | .ok (q, t) => pTl X isPm (pTerm X (pBr X k)) q (acc ++ t ++ pend)) →
    zJ l G 1 (D + 3) h_LR_sum k_LR_sum 115 Q QX 4 [(2, 4), (2, L), (0, j), (0, s), (0, i)] [] v 115
  | 0, v, pl, i, s, acc, pend, hm, hX, hF, hW, hp, h0, h1, hi0, hi, hlen, hp0, hp1, hR => by omega
  | m + 1, v, pl, i, s, acc, pend, hm, hX, hF, hW, hp, h0, h1, hi0, hi, hlen, hp0, hp1, hR => by
    have hn1 := ht.1
    obtain ⟨f1, f2, f3, f4, f5⟩ := zlo_f hL
    have e41 : (4 + (-3) : Int) = 1 := rfl
    have hgd0 : pGl X (pTerm X (pBr X k)) := pGd_l (b := false) (pSep_gd (fun _ h => sep_tm h) (pAtom_gd (pBr_gd (X := X) k)))
    have hgd := hgd0 pl h0 h1
    refine zgo ck_LR_sum 300 4 _ _ _ _ rfl (sg_LR_sum_4 ?_)
    simp only [e41, hX.1]
    refine ⟨by first | decide | omega, by first | decide | omega, ⟨fun q1 => ⟨by first | decide | omega, ?_⟩, fun q2 => ⟨by first | decide | omega, ?_⟩⟩⟩
    try (any_goals (exfalso; first | omega | exact absurd trivial (by assumption)))
    refine hat L (ts ++ acc) pl v _ hL hX hW hp h0 h1 (by simp; omega) (fun e v1 n1 n2 n3 => ?_) (fun q t v1 n1 n2 n3 n4 => ?_)
    · rw [n1] at hR
      refine ⟨fun q1 => ⟨fun q2 => ⟨by first | decide | omega, ?_⟩, fun q3 => ⟨by first | decide | omega, ?_⟩⟩, fun q4 => ⟨by first | decide | omega, ?_⟩⟩
      try (any_goals (exfalso; first | omega | exact absurd trivial (by assumption)))
      exact Ke e v1 hR (Fx_tr hF n2) n3
    obtain ⟨g1, g2, g3⟩ := hgd.2 q t n1
    rw [n1] at hR
    simp only at hR
    rw [pTl_1 (fun _ h => (sep_pm h).1) hgd0 (by omega) g2] at hR
    have hb := pS_b (X := X) q
    by_cases hi1 : i = 0
    · have hpe := hp0 hi1
      refine ⟨fun q1 => ⟨fun q2 => ⟨by first | decide | omega, ?_⟩, fun q3 => ⟨by first | decide | omega, ?_⟩⟩, fun q4 => ⟨by first | decide | omega, ?_⟩⟩
      try (any_goals (exfalso; first | omega | exact absurd trivial (by assumption)))
      have hq2 := n3
      have hX2 := Fx_TP hL n2 hX
      have hF2 := Fx_tr hF n2
      have hW2 : LW v1 L (ts ++ (acc ++ t ++ pend)) := by rw [hpe, List.append_nil, ← List.append_assoc]; exact n4
      refine c_LR_sign ht hX2 hq2 (by omega) g2 (fun v3 s1 s2 => ?_)
      have hW3 := LW_4 hL s1 hW2
      have hF3 := Fx_tr hF2 (Fx_4 s1)
      simp only [s2]
      by_cases hsep : isPm (pC X q) = true
      · rw [if_pos hsep] at hR
        have hc : pC X q = 43 ∨ pC X q = 45 := by simpa [isPm] using hsep
        have hlt := pC_lt (X := X) (p := q) (by omega)
        have go := LR_sum_4 (QX := QX) hk ht hat hL Ke Ko m (v := zupd v3 4 1 (pS X q + 1)) (pl := pS X q + 1) (i := i + 1) (s := pC X q) (acc := acc ++ t ++ pend) (pend := [-(pC X q)]) (by omega) (Fx_TP hL (Fx_tr (Fx_4 s1) (Fx_4 (fun b q => zup_a q))) hX2) (Fx_tr hF3 (Fx_4 (fun b q => zup_a q))) (LW_4 hL (fun b q => zup_a q) hW3) (zup_e rfl rfl) (by omega) (by omega) (by omega) (by omega) (by simp; omega) (fun r => by omega) (fun _ => ⟨rfl, hc⟩) hR
        rcases hc with hc | hc
        · refine ⟨fun q1 => ⟨by first | decide | omega, ⟨by first | decide | omega, by first | decide | omega⟩, by first | decide | omega, ⟨by first | decide | omega, by first | decide | omega⟩, ?_⟩, fun q2 => ⟨fun q3 => ⟨by first | decide | omega, ⟨by first | decide | omega, by first | decide | omega⟩, by first | decide | omega, ⟨by first | decide | omega, by first | decide | omega⟩, ?_⟩, fun q4 => ⟨by first | decide | omega, ?_⟩⟩⟩
          try (any_goals (exfalso; first | omega | exact absurd trivial (by assumption)))
          exact go
        · refine ⟨fun q1 => ⟨by first | decide | omega, ⟨by first | decide | omega, by first | decide | omega⟩, by first | decide | omega, ⟨by first | decide | omega, by first | decide | omega⟩, ?_⟩, fun q2 => ⟨fun q3 => ⟨by first | decide | omega, ⟨by first | decide | omega, by first | decide | omega⟩, by first | decide | omega, ⟨by first | decide | omega, by first | decide | omega⟩, ?_⟩, fun q4 => ⟨by first | decide | omega, ?_⟩⟩⟩
          try (any_goals (exfalso; first | omega | exact absurd trivial (by assumption)))
          exact go
      · rw [if_neg hsep] at hR
        have hc : ¬ (pC X q = 43 ∨ pC X q = 45) := fun r => hsep (by simpa [isPm] using r)
        refine ⟨fun q1 => ⟨by first | decide | omega, ⟨by first | decide | omega, by first | decide | omega⟩, by first | decide | omega, ⟨by first | decide | omega, by first | decide | omega⟩, ?_⟩, fun q2 => ⟨fun q3 => ⟨by first | decide | omega, ⟨by first | decide | omega, by first | decide | omega⟩, by first | decide | omega, ⟨by first | decide | omega, by first | decide | omega⟩, ?_⟩, fun q4 => ⟨by first | decide | omega, ?_⟩⟩⟩
        try (any_goals (exfalso; first | omega | exact absurd trivial (by assumption)))
        exact Ko _ _ v3 hR hF3 s2 hW3
    · obtain ⟨hpe, hss⟩ := hp1 hi1
      have hlp : pend.length = 1 := by rw [hpe]; rfl
      refine ⟨fun q1 => ⟨fun q2 => ⟨by first | decide | omega, ?_⟩, fun q3 => ⟨by first | decide | omega, ?_⟩⟩, fun q4 => ⟨by first | decide | omega, ?_⟩⟩
      try (any_goals (exfalso; first | omega | exact absurd trivial (by assumption)))
      refine c_La_addSign hL n4 (by simp; omega) (by omega) (fun v2 m1 m2 => ?_)
      have hq2 : v2 4 1 = q := (congrFun (m1 4 (by rcases hL with rfl | rfl | rfl | rfl | rfl <;> omega) (by rcases hL with rfl | rfl | rfl | rfl | rfl <;> omega)) 1).trans n3
      have hX2 := Fx_TP hL (Fx_tr n2 (Fx_L m1)) hX
      have hF2 := Fx_tr hF (Fx_tr n2 (Fx_L m1))
      have hW2 : LW v2 L (ts ++ (acc ++ t ++ pend)) := by rw [hpe, ← List.append_assoc, ← List.append_assoc]; exact m2
      refine ⟨by first | decide | omega, ?_⟩
      try (any_goals (exfalso; first | omega | exact absurd trivial (by assumption)))
      refine c_LR_sign ht hX2 hq2 (by omega) g2 (fun v3 s1 s2 => ?_)
      have hW3 := LW_4 hL s1 hW2
      have hF3 := Fx_tr hF2 (Fx_4 s1)
      simp only [s2]
      by_cases hsep : isPm (pC X q) = true
      · rw [if_pos hsep] at hR
        have hc : pC X q = 43 ∨ pC X q = 45 := by simpa [isPm] using hsep
        have hlt := pC_lt (X := X) (p := q) (by omega)
        have go := LR_sum_4 (QX := QX) hk ht hat hL Ke Ko m (v := zupd v3 4 1 (pS X q + 1)) (pl := pS X q + 1) (i := i + 1) (s := pC X q) (acc := acc ++ t ++ pend) (pend := [-(pC X q)]) (by omega) (Fx_TP hL (Fx_tr (Fx_4 s1) (Fx_4 (fun b q => zup_a q))) hX2) (Fx_tr hF3 (Fx_4 (fun b q => zup_a q))) (LW_4 hL (fun b q => zup_a q) hW3) (zup_e rfl rfl) (by omega) (by omega) (by omega) (by omega) (by simp; omega) (fun r => by omega) (fun _ => ⟨rfl, hc⟩) hR
        rcases hc with hc | hc
        · refine ⟨fun q1 => ⟨by first | decide | omega, ⟨by first | decide | omega, by first | decide | omega⟩, by first | decide | omega, ⟨by first | decide | omega, by first | decide | omega⟩, ?_⟩, fun q2 => ⟨fun q3 => ⟨by first | decide | omega, ⟨by first | decide | omega, by first | decide | omega⟩, by first | decide | omega, ⟨by first | decide | omega, by first | decide | omega⟩, ?_⟩, fun q4 => ⟨by first | decide | omega, ?_⟩⟩⟩
          try (any_goals (exfalso; first | omega | exact absurd trivial (by assumption)))
          exact go
        · refine ⟨fun q1 => ⟨by first | decide | omega, ⟨by first | decide | omega, by first | decide | omega⟩, by first | decide | omega, ⟨by first | decide | omega, by first | decide | omega⟩, ?_⟩, fun q2 => ⟨fun q3 => ⟨by first | decide | omega, ⟨by first | decide | omega, by first | decide | omega⟩, by first | decide | omega, ⟨by first | decide | omega, by first | decide | omega⟩, ?_⟩, fun q4 => ⟨by first | decide | omega, ?_⟩⟩⟩
          try (any_goals (exfalso; first | omega | exact absurd trivial (by assumption)))
          exact go
      · rw [if_neg hsep] at hR
        have hc : ¬ (pC X q = 43 ∨ pC X q = 45) := fun r => hsep (by simpa [isPm] using r)
        refine ⟨fun q1 => ⟨by first | decide | omega, ⟨by first | decide | omega, by first | decide | omega⟩, by first | decide | omega, ⟨by first | decide | omega, by first | decide | omega⟩, ?_⟩, fun q2 => ⟨fun q3 => ⟨by first | decide | omega, ⟨by first | decide | omega, by first | decide | omega⟩, by first | decide | omega, ⟨by first | decide | omega, by first | decide | omega⟩, ?_⟩, fun q4 => ⟨by first | decide | omega, ?_⟩⟩⟩
        try (any_goals (exfalso; first | omega | exact absurd trivial (by assumption)))
        exact Ko _ _ v3 hR hF3 s2 hW3
theorem c_LR_sum {X : zTp} {k D : Nat} {j : Int} (hk : k ≤ 6) (hj : 0 ≤ j ∧ j ≤ 6) (ht : tOk X) (hat : LRc l G X (D + 2) h_LR_term [(0, j)] (pTerm X (pBr X k))) : LRc l G X (D + 3) h_LR_sum [(0, j)] (pSum X (pBr X k)) := by
  intro L ts p v Q hL hX hW hp h0 h1 hts Ke Ko
  obtain ⟨f1, f2, f3, f4, f5⟩ := zlo_f hL
  refine zC_at ok_LR_sum ck_LR_sum rfl rfl (sg_LR_sum_0 ?_)
  refine LR_sum_4 hk ht hat hL Ke Ko ((X.2 - p).toNat + 1) (acc := []) (pend := []) (by omega) hX Fx_rf (by rw [List.append_nil]; exact hW) hp h0 h1 (by omega) (by omega) (by simp; exact hts) (fun _ => rfl) (fun r => absurd rfl r) ?_
  simp only [List.nil_append, List.append_nil]
  rfl
theorem c_LR_atom {X : zTp} {k D : Nat} {j : Int} (hj : j = 6 - k) (hk : k ≤ 6) (ht : tOk X) (hs : ∀ k' : Nat, k = k' + 1 → LRc l G X (D + 2) h_LR_sum [(0, j + 1)] (pSum X (pBr X k'))) : LRc l G X (D + 3) h_LR_atom [(0, j)] (pAtom X (pBr X k)) := by
  intro L ts p v Q hL hX hW hp h0 h1 hts Ke Ko
  have hn1 := ht.1
  have hb := pS_b (X := X) p
  have hcn := pC_nn (p := p) ht h0
  have h9 : 9 ≤ L := by rcases hL with rfl | rfl | rfl | rfl | rfl <;> omega
  obtain ⟨f1, f2, f3, f4, f5⟩ := zlo_f hL
  unfold pAtom at Ke Ko
  refine zC_at ok_LR_atom ck_LR_atom rfl rfl (sg_LR_atom_0 ?_)
  refine ⟨by first | decide | omega, ?_⟩
  try (any_goals (exfalso; first | omega | exact absurd trivial (by assumption)))
  refine c_LR_sign ht hX hp h0 h1 (fun v1 s1 s2 => ?_)
  have hX1 := Fx_TP hL (Fx_4 s1) hX
  have hW1 := LW_4 hL s1 hW
  simp only [s2]
  by_cases c1 : pC X p = 91
  · rw [if_pos c1] at Ke Ko
    have hlt := pC_lt (X := X) (p := p) (by omega)
    match k, hs, hj, hk, Ke, Ko with
    | 0, hs, hj, hk, Ke, Ko =>
      refine ⟨fun q1 => ⟨fun q2 => ⟨by first | decide | omega, ⟨by first | decide | omega, by first | decide | omega⟩, by first | decide | omega, ⟨by first | decide | omega, by first | decide | omega⟩, by first | decide | omega, ?_⟩, fun q3 => ⟨by first | decide | omega, ?_⟩⟩, fun q4 => ⟨fun q5 => ⟨by first | decide | omega, ⟨by first | decide | omega, by first | decide | omega⟩, by first | decide | omega, by first | decide | omega, ?_⟩, fun q6 => ⟨fun q7 => ⟨by first | decide | omega, ⟨by first | decide | omega, by first | decide | omega⟩, by first | decide | omega, by first | decide | omega, ?_⟩, fun q8 => ⟨fun q9 => ⟨by first | decide | omega, ⟨by first | decide | omega, by first | decide | omega⟩, by first | decide | omega, by first | decide | omega, ?_⟩, fun q10 => ⟨fun q11 => ⟨by first | decide | omega, ⟨by first | decide | omega, by first | decide | omega⟩, by first | decide | omega, by first | decide | omega, ?_⟩, fun q12 => ⟨fun q13 => ⟨by first | decide | omega, ⟨by first | decide | omega, by first | decide | omega⟩, by first | decide | omega, by first | decide | omega, ?_⟩, fun q14 => ⟨by first | decide | omega, ?_⟩⟩⟩⟩⟩⟩⟩
      try (any_goals (exfalso; first | omega | exact absurd trivial (by assumption)))
      exact Ke _ v1 rfl (Fx_4 s1) s2
    | k + 1, hs, hj, hk, Ke, Ko =>
      have hgd := (pSum_gd (pBr_gd (X := X) k)) (pS X p + 1) (by omega) (by omega)
      refine ⟨fun q1 => ⟨fun q2 => ⟨by first | decide | omega, ⟨by first | decide | omega, by first | decide | omega⟩, by first | decide | omega, ⟨by first | decide | omega, by first | decide | omega⟩, by first | decide | omega, ?_⟩, fun q3 => ⟨by first | decide | omega, ?_⟩⟩, fun q4 => ⟨fun q5 => ⟨by first | decide | omega, ⟨by first | decide | omega, by first | decide | omega⟩, by first | decide | omega, by first | decide | omega, ?_⟩, fun q6 => ⟨fun q7 => ⟨by first | decide | omega, ⟨by first | decide | omega, by first | decide | omega⟩, by first | decide | omega, by first | decide | omega, ?_⟩, fun q8 => ⟨fun q9 => ⟨by first | decide | omega, ⟨by first | decide | omega, by first | decide | omega⟩, by first | decide | omega, by first | decide | omega, ?_⟩, fun q10 => ⟨fun q11 => ⟨by first | decide | omega, ⟨by first | decide | omega, by first | decide | omega⟩, by first | decide | omega, by first | decide | omega, ?_⟩, fun q12 => ⟨fun q13 => ⟨by first | decide | omega, ⟨by first | decide | omega, by first | decide | omega⟩, by first | decide | omega, by first | decide | omega, ?_⟩, fun q14 => ⟨by first | decide | omega, ?_⟩⟩⟩⟩⟩⟩⟩
      try (any_goals (exfalso; first | omega | exact absurd trivial (by assumption)))
      have hf : ∀ b : Int, b ≠ 4 → (zupd v1 4 1 (pS X p + 1)) b = v b := fun b q => (zup_a q).trans (s1 b q)
      refine hs k rfl L ts (pS X p + 1) _ _ hL (Fx_TP hL (Fx_4 hf) hX) (LW_4 hL hf hW) (zup_e rfl rfl) (by omega) (by omega) (by omega) (fun e v2 n1 n2 n3 => ?_) (fun q t v2 n1 n2 n3 n4 => ?_)
      · have n1' : pSum X (pBr X k) (pS X p + 1) = .error e := n1
        simp only [pBr, n1'] at Ke
        refine ⟨fun q1 => ⟨by first | decide | omega, ?_⟩, fun q2 => ⟨by first | decide | omega, ?_⟩⟩
        try (any_goals (exfalso; first | omega | exact absurd trivial (by assumption)))
        exact Ke e v2 rfl (Fx_tr (Fx_4 hf) n2) n3
      · have n1' : pSum X (pBr X k) (pS X p + 1) = .ok (q, t) := n1
        obtain ⟨g1, g2, g3, -⟩ := hgd.2 q t n1'
        simp only [pBr, n1'] at Ke Ko
        have hX2 := Fx_TP hL (Fx_tr (Fx_4 hf) n2) hX
        refine ⟨fun q1 => ⟨by first | decide | omega, ?_⟩, fun q2 => ⟨by first | decide | omega, ?_⟩⟩
        try (any_goals (exfalso; first | omega | exact absurd trivial (by assumption)))
        refine c_LR_takes ht hX2 n3 (by omega) g2 (by omega) (fun c v3 t1 t2 => ?_) (fun c v3 t1 t2 => ?_)
        · rw [if_pos c] at Ko
          refine ⟨fun q1 => ⟨by first | decide | omega, ?_⟩, fun q2 => ⟨by first | decide | omega, ?_⟩⟩
          try (any_goals (exfalso; first | omega | exact absurd trivial (by assumption)))
          exact Ko _ _ v3 rfl (Fx_tr (Fx_4 hf) (Fx_tr n2 (Fx_4 t1))) t2 (LW_4 hL t1 n4)
        · rw [if_neg c] at Ke
          refine ⟨fun q1 => ⟨by first | decide | omega, ?_⟩, fun q2 => ⟨by first | decide | omega, ?_⟩⟩
          try (any_goals (exfalso; first | omega | exact absurd trivial (by assumption)))
          exact Ke _ v3 rfl (Fx_tr (Fx_4 hf) (Fx_tr n2 (Fx_4 t1))) t2
  rw [if_neg c1] at Ke Ko
  by_cases c2 : isLet (pC X p) = true
  · rw [if_pos c2] at Ko
    have c2' := isLet_iff.mp c2
    have hlt := pC_lt (X := X) (p := p) (by omega)
    have hf : ∀ b : Int, b ≠ 4 → (zupd v1 4 1 (pS X p + 1)) b = v b := fun b q => (zup_a q).trans (s1 b q)
    have go : zC l G 1 (D + 2) h_La_addSign [(2, L), (0, pC X p)] (zupd v1 4 1 (pS X p + 1)) 115 (fun _ v4 => ((1 : Int) = 0 ∨ True) ∧ Q 1 v4) := by
      refine c_La_addSign hL (LW_4 hL hf hW) (by omega) (by omega) (fun v2 m1 m2 => ⟨Or.inr trivial, ?_⟩)
      refine Ko _ _ v2 rfl (Fx_tr (Fx_4 hf) (Fx_L m1)) ?_ m2
      rw [m1 4 (by omega) (by omega)]
      exact zup_e rfl rfl
    rcases c2' with hc | hc | hc | hc | hc
    · refine ⟨fun q1 => ⟨fun q2 => ⟨by first | decide | omega, ⟨by first | decide | omega, by first | decide | omega⟩, by first | decide | omega, ⟨by first | decide | omega, by first | decide | omega⟩, by first | decide | omega, ?_⟩, fun q3 => ⟨by first | decide | omega, ?_⟩⟩, fun q4 => ⟨fun q5 => ⟨by first | decide | omega, ⟨by first | decide | omega, by first | decide | omega⟩, by first | decide | omega, by first | decide | omega, ?_⟩, fun q6 => ⟨fun q7 => ⟨by first | decide | omega, ⟨by first | decide | omega, by first | decide | omega⟩, by first | decide | omega, by first | decide | omega, ?_⟩, fun q8 => ⟨fun q9 => ⟨by first | decide | omega, ⟨by first | decide | omega, by first | decide | omega⟩, by first | decide | omega, by first | decide | omega, ?_⟩, fun q10 => ⟨fun q11 => ⟨by first | decide | omega, ⟨by first | decide | omega, by first | decide | omega⟩, by first | decide | omega, by first | decide | omega, ?_⟩, fun q12 => ⟨fun q13 => ⟨by first | decide | omega, ⟨by first | decide | omega, by first | decide | omega⟩, by first | decide | omega, by first | decide | omega, ?_⟩, fun q14 => ⟨by first | decide | omega, ?_⟩⟩⟩⟩⟩⟩⟩
      try (any_goals (exfalso; first | omega | exact absurd trivial (by assumption)))
      exact go
    · refine ⟨fun q1 => ⟨fun q2 => ⟨by first | decide | omega, ⟨by first | decide | omega, by first | decide | omega⟩, by first | decide | omega, ⟨by first | decide | omega, by first | decide | omega⟩, by first | decide | omega, ?_⟩, fun q3 => ⟨by first | decide | omega, ?_⟩⟩, fun q4 => ⟨fun q5 => ⟨by first | decide | omega, ⟨by first | decide | omega, by first | decide | omega⟩, by first | decide | omega, by first | decide | omega, ?_⟩, fun q6 => ⟨fun q7 => ⟨by first | decide | omega, ⟨by first | decide | omega, by first | decide | omega⟩, by first | decide | omega, by first | decide | omega, ?_⟩, fun q8 => ⟨fun q9 => ⟨by first | decide | omega, ⟨by first | decide | omega, by first | decide | omega⟩, by first | decide | omega, by first | decide | omega, ?_⟩, fun q10 => ⟨fun q11 => ⟨by first | decide | omega, ⟨by first | decide | omega, by first | decide | omega⟩, by first | decide | omega, by first | decide | omega, ?_⟩, fun q12 => ⟨fun q13 => ⟨by first | decide | omega, ⟨by first | decide | omega, by first | decide | omega⟩, by first | decide | omega, by first | decide | omega, ?_⟩, fun q14 => ⟨by first | decide | omega, ?_⟩⟩⟩⟩⟩⟩⟩
      try (any_goals (exfalso; first | omega | exact absurd trivial (by assumption)))
      exact go
    · refine ⟨fun q1 => ⟨fun q2 => ⟨by first | decide | omega, ⟨by first | decide | omega, by first | decide | omega⟩, by first | decide | omega, ⟨by first | decide | omega, by first | decide | omega⟩, by first | decide | omega, ?_⟩, fun q3 => ⟨by first | decide | omega, ?_⟩⟩, fun q4 => ⟨fun q5 => ⟨by first | decide | omega, ⟨by first | decide | omega, by first | decide | omega⟩, by first | decide | omega, by first | decide | omega, ?_⟩, fun q6 => ⟨fun q7 => ⟨by first | decide | omega, ⟨by first | decide | omega, by first | decide | omega⟩, by first | decide | omega, by first | decide | omega, ?_⟩, fun q8 => ⟨fun q9 => ⟨by first | decide | omega, ⟨by first | decide | omega, by first | decide | omega⟩, by first | decide | omega, by first | decide | omega, ?_⟩, fun q10 => ⟨fun q11 => ⟨by first | decide | omega, ⟨by first | decide | omega, by first | decide | omega⟩, by first | decide | omega, by first | decide | omega, ?_⟩, fun q12 => ⟨fun q13 => ⟨by first | decide | omega, ⟨by first | decide | omega, by first | decide | omega⟩, by first | decide | omega, by first | decide | omega, ?_⟩, fun q14 => ⟨by first | decide | omega, ?_⟩⟩⟩⟩⟩⟩⟩
      try (any_goals (exfalso; first | omega | exact absurd trivial (by assumption)))
      exact go
    · refine ⟨fun q1 => ⟨fun q2 => ⟨by first | decide | omega, ⟨by first | decide | omega, by first | decide | omega⟩, by first | decide | omega, ⟨by first | decide | omega, by first | decide | omega⟩, by first | decide | omega, ?_⟩, fun q3 => ⟨by first | decide | omega, ?_⟩⟩, fun q4 => ⟨fun q5 => ⟨by first | decide | omega, ⟨by first | decide | omega, by first | decide | omega⟩, by first | decide | omega, by first | decide | omega, ?_⟩, fun q6 => ⟨fun q7 => ⟨by first | decide | omega, ⟨by first | decide | omega, by first | decide | omega⟩, by first | decide | omega, by first | decide | omega, ?_⟩, fun q8 => ⟨fun q9 => ⟨by first | decide | omega, ⟨by first | decide | omega, by first | decide | omega⟩, by first | decide | omega, by first | decide | omega, ?_⟩, fun q10 => ⟨fun q11 => ⟨by first | decide | omega, ⟨by first | decide | omega, by first | decide | omega⟩, by first | decide | omega, by first | decide | omega, ?_⟩, fun q12 => ⟨fun q13 => ⟨by first | decide | omega, ⟨by first | decide | omega, by first | decide | omega⟩, by first | decide | omega, by first | decide | omega, ?_⟩, fun q14 => ⟨by first | decide | omega, ?_⟩⟩⟩⟩⟩⟩⟩
      try (any_goals (exfalso; first | omega | exact absurd trivial (by assumption)))
      exact go
    · refine ⟨fun q1 => ⟨fun q2 => ⟨by first | decide | omega, ⟨by first | decide | omega, by first | decide | omega⟩, by first | decide | omega, ⟨by first | decide | omega, by first | decide | omega⟩, by first | decide | omega, ?_⟩, fun q3 => ⟨by first | decide | omega, ?_⟩⟩, fun q4 => ⟨fun q5 => ⟨by first | decide | omega, ⟨by first | decide | omega, by first | decide | omega⟩, by first | decide | omega, by first | decide | omega, ?_⟩, fun q6 => ⟨fun q7 => ⟨by first | decide | omega, ⟨by first | decide | omega, by first | decide | omega⟩, by first | decide | omega, by first | decide | omega, ?_⟩, fun q8 => ⟨fun q9 => ⟨by first | decide | omega, ⟨by first | decide | omega, by first | decide | omega⟩, by first | decide | omega, by first | decide | omega, ?_⟩, fun q10 => ⟨fun q11 => ⟨by first | decide | omega, ⟨by first | decide | omega, by first | decide | omega⟩, by first | decide | omega, by first | decide | omega, ?_⟩, fun q12 => ⟨fun q13 => ⟨by first | decide | omega, ⟨by first | decide | omega, by first | decide | omega⟩, by first | decide | omega, by first | decide | omega, ?_⟩, fun q14 => ⟨by first | decide | omega, ?_⟩⟩⟩⟩⟩⟩⟩
      try (any_goals (exfalso; first | omega | exact absurd trivial (by assumption)))
      exact go
  rw [if_neg c2] at Ke Ko
  have c2' : ¬ (pC X p = 104 ∨ pC X p = 114 ∨ pC X p = 99 ∨ pC X p = 100 ∨ pC X p = 115) := fun r => c2 (isLet_iff.mpr r)
  have hnb := pNm_b (X := X) (m := 4) (p := pS X p) (by omega) (by omega)
  refine ⟨fun q1 => ⟨fun q2 => ⟨by first | decide | omega, ⟨by first | decide | omega, by first | decide | omega⟩, by first | decide | omega, ⟨by first | decide | omega, by first | decide | omega⟩, by first | decide | omega, ?_⟩, fun q3 => ⟨by first | decide | omega, ?_⟩⟩, fun q4 => ⟨fun q5 => ⟨by first | decide | omega, ⟨by first | decide | omega, by first | decide | omega⟩, by first | decide | omega, by first | decide | omega, ?_⟩, fun q6 => ⟨fun q7 => ⟨by first | decide | omega, ⟨by first | decide | omega, by first | decide | omega⟩, by first | decide | omega, by first | decide | omega, ?_⟩, fun q8 => ⟨fun q9 => ⟨by first | decide | omega, ⟨by first | decide | omega, by first | decide | omega⟩, by first | decide | omega, by first | decide | omega, ?_⟩, fun q10 => ⟨fun q11 => ⟨by first | decide | omega, ⟨by first | decide | omega, by first | decide | omega⟩, by first | decide | omega, by first | decide | omega, ?_⟩, fun q12 => ⟨fun q13 => ⟨by first | decide | omega, ⟨by first | decide | omega, by first | decide | omega⟩, by first | decide | omega, by first | decide | omega, ?_⟩, fun q14 => ⟨by first | decide | omega, ?_⟩⟩⟩⟩⟩⟩⟩
  try (any_goals (exfalso; first | omega | exact absurd trivial (by assumption)))
  refine c_LR_digits ht (M := 4) (by omega) hX1 s2 (by omega) (by omega) (fun e v2 n1 n2 n3 => ?_) (fun q x v2 n1 n2 n3 => ?_)
  · rw [n1] at Ke
    refine ⟨fun q1 => ⟨by first | decide | omega, ?_⟩, fun q2 => ⟨by first | decide | omega, ?_⟩⟩
    try (any_goals (exfalso; first | omega | exact absurd trivial (by assumption)))
    exact Ke e v2 rfl (Fx_tr (Fx_4 s1) (Fx_4 n2)) n3
  · have hx := hnb.2 q x n1
    rw [n1] at Ko
    refine ⟨fun q1 => ⟨by first | decide | omega, ?_⟩, fun q2 => ⟨by first | decide | omega, ?_⟩⟩
    try (any_goals (exfalso; first | omega | exact absurd trivial (by assumption)))
    refine c_La_addNumber hL (LW_4 hL n2 hW1) (by omega) (fun v3 m1 m2 m3 m4 => ?_)
    refine ⟨by first | decide | omega, ?_⟩
    refine Ko q [x] v3 rfl (Fx_tr (Fx_4 s1) (Fx_tr (Fx_4 n2) (Fx_L m1))) ?_ (LW_num (LW_4 hL n2 hW1) (by omega) m2 m3 m4)
    rw [m1 4 (by omega) (by omega)]
    exact n3
theorem c_LR_sumK {X : zTp} (ht : tOk X) : ∀ (k d : Nat), k ≤ 6 → LRc l G X (d + 3 * k + 5) h_LR_sum [(0, 6 - (k : Int))] (pSumL X k)
  | 0, d, hk => by
    have a := c_LR_atom (l := l) (G := G) (X := X) (k := 0) (D := d) (j := 6 - ((0 : Nat) : Int)) rfl (by omega) ht (fun k' e => by omega)
    exact c_LR_sum (D := d + 2) (by omega) (by omega) ht (c_LR_term (D := d + 1) (by omega) (by omega) ht a)
  | k + 1, d, hk => by
    have s := c_LR_sumK ht k d (by omega)
    have a := c_LR_atom (l := l) (G := G) (X := X) (k := k + 1) (D := d + 3 * k + 3) (j := 6 - ((k + 1 : Nat) : Int)) rfl (by omega) ht (fun k' e => by
      have e' : k' = k := by omega
      subst e'
      have ej : (6 - ((k' + 1 : Nat) : Int)) + 1 = 6 - (k' : Int) := by omega
      rw [ej]
      exact s)
    exact c_LR_sum (D := d + 3 * k + 5) (by omega) (by omega) ht (c_LR_term (D := d + 3 * k + 4) (by omega) (by omega) ht a)
theorem pCmp_nil {X : zTp} {s : zPs} {q : Int} {t : List Int} : pCmp X s q t = match pCmp X s q [] with
    | .error e => .error e
    | .ok (r, u) => .ok (r, t ++ u) := by
  unfold pCmp
  split
  · split
    · rfl
    · rename_i r u he
      simp
  · rfl
end
