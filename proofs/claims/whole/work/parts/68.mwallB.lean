/-! THE REFERENCE: a wall's clauses read -/
def LTm (v : zH) (R : Int) (lens : Int → Int) (n : Int) (g : Int → Int) : Prop := (∀ r c : Int, 0 ≤ r → r < R → 0 ≤ c → c < lens r → v 91 (10 * r + c) = g (6 * r + c)) ∧ ∀ c : Int, 0 ≤ c → c < n → v 91 (10 * R + c) = g (6 * R + c)
def DM (v : zH) (D : zDf) : Prop := (v 77 22 = dS D ∧ KPm v 88 (3 * dS D) (dT D)) ∧ (v 77 24 = dO D ∧ KPm v 89 (5 * dO D) (dV D)) ∧ (v 77 25 = dZ D ∧ KPm v 90 (2 * dZ D) (dL D)) ∧ v 77 23 = dR D ∧ (∀ r : Int, 0 ≤ r → r < dR D → v 92 r = dW D r) ∧ LTm v (dR D) (dW D) 0 (dE D)
/-- what reading a wall may change -/
def FW (v v' : zH) : Prop := (∀ b : Int, b ≠ 77 → ¬ (88 ≤ b ∧ b ≤ 92) → v' b = v b) ∧ ∀ k : Int, ¬ (3 ≤ k ∧ k ≤ 5) → ¬ (22 ≤ k ∧ k ≤ 25) → v' 77 k = v 77 k
theorem FW_tr {u v w : zH} (h : FW u v) (g : FW v w) : FW u w := ⟨fun b q r => (g.1 b q r).trans (h.1 b q r), fun k q r => (g.2 k q r).trans (h.2 k q r)⟩
theorem FW_rf {v : zH} : FW v v := ⟨fun _ _ _ => rfl, fun _ _ _ => rfl⟩
theorem FW_7 {v v' : zH} (h : F7 v v') : FW v v' := ⟨fun b q _ => h.1 b q, fun k q _ => h.2 k (by omega) (by omega) (by omega)⟩
theorem FW_I {a : Int} {v v' : zH} (ha : 88 ≤ a ∧ a ≤ 90) (h : FI a v v') : FW v v' := ⟨fun b q r => h.1 b q (by omega), fun k q _ => h.2 k (by omega) (by omega) (by omega)⟩
theorem FW_up {v : zH} {k x : Int} (hk : 22 ≤ k ∧ k ≤ 25) : FW v (zupd v 77 k x) := ⟨fun b q _ => zup_a q, fun j _ r => zup_j (by omega)⟩
theorem TM_W {v v' : zH} {X : zTp} (h : FW v v') (k : TM v X) : TM v' X := TM_fr (h.2 2 (by omega) (by omega)) (h.1 78 (by omega) (by omega)) k
theorem DM_7 {v v' : zH} {D : zDf} (h : F7 v v') (k : DM v D) : DM v' D := by
  unfold DM KPm LTm
  rw [h.1 88 (by omega), h.1 89 (by omega), h.1 90 (by omega), h.1 91 (by omega), h.1 92 (by omega), h.2 22 (by omega) (by omega) (by omega), h.2 23 (by omega) (by omega) (by omega), h.2 24 (by omega) (by omega) (by omega), h.2 25 (by omega) (by omega) (by omega)]
  exact k
section
variable {l : Launch} {G : zG} {d : Nat} {v : zH} {Q : Int → zH → Prop}
theorem itm_2 {X : zTp} {κ a j0 p : Int} {v0 : zH} {g : Int → Int} {QX : Nat → zH → Prop} (ht : tOk X) (hκ : κ = 0 ∨ κ = 1 ∨ κ = 2) (ha : 88 ≤ a ∧ a ≤ 90) (hzc : zCL a = 20) (hzl : ∃ L : Int, zLN a = L ∧ j0 + kN κ ≤ L ∧ L ≤ 15) (hj : 0 ≤ j0) (hX : TM v0 X) (h3 : v0 77 3 = p) (h0 : 0 ≤ p) (h1 : p ≤ X.2) (hk : KPm v0 a j0 g)
    (K : ∀ v' : zH, FI a v0 v' → v' 77 3 = pS X p → v' 77 4 = v0 77 4 → KPm v' a (j0 + kN κ) (fun j => if j0 ≤ j ∧ j < j0 + kN κ then kDf κ (j - j0) else g j) → zJ l G 1 (d + 4) h_M_items k_M_items 115 Q QX 22 [(2, 77), (0, kCh κ), (2, a), (0, j0), (3, 0), (0, 0), (0, kIt κ (pC X p))] [] v' 115) :
    ∀ (m i : Nat) {v : zH}, (i : Int) + m = kN κ → (∀ b : Int, b ≠ a → v b = v0 b) → (∀ j : Int, j < j0 → v a j = v0 a j) → (∀ k : Int, 0 ≤ k → k < i → v a (j0 + k) = kDf κ k) → zJ l G 1 (d + 4) h_M_items k_M_items 115 Q QX 2 [(2, 77), (0, kCh κ), (2, a), (0, j0), (0, kN κ), (0, (i : Int)), (3, 0)] [] v 115
  | m, i, v, hi, hF, hl, hp => by
    obtain ⟨L, hzl, hTL, hL15⟩ := hzl
    have hkn := kN_c κ
    have h77 : (77 : Int) ≠ a := by omega
    match m, hi with
    | 0, hi =>
      refine zgo ck_M_items 300 2 _ _ _ _ rfl (sg_M_items_2 ?_)
      try simp (disch := omega) only [zup_e, zup_ak, zup_j, Int.zero_add, Int.reduceAdd, mz78, mz79, mz80, mz81, mz82, mz83, mz84, mz85, mz86, mz87, mz88, mz89, mz90, mz91, mz92, mz93, mz94, mz95, mz96, mz97, mz98, mz99, mz100, mz101, mz102, mz103, mz104, mz105, mz106, mz107, mz108, mz109, mz110, mz111, mz112, mz113, hzc]
      refine ⟨fun q1 => ⟨by first | decide | omega | contradiction | exact absurd trivial (by assumption), ?_⟩, fun q2 => ⟨⟨by first | decide | omega | contradiction | exact absurd trivial (by assumption), by first | decide | omega | contradiction | exact absurd trivial (by assumption)⟩, ?_⟩⟩
      try (any_goals (exfalso; first | omega | exact absurd trivial (by assumption)))
      refine c_M_look (p := p) ht (TM_fr (by rw [hF 77 h77]) (hF 78 (by omega)) hX) (by rw [hF 77 h77]; exact h3) h0 h1 (fun v1 f1 f2 => ?_)
      refine c_M_itemOf hκ ?_
      refine K v1 ⟨fun b q r => (f1.1 b q).trans (hF b r), fun k q _ _ => by rw [f1.2 k q, hF 77 h77]⟩ f2 (by rw [f1.2 4 (by omega), hF 77 h77]) (fun j j1 j2 => ?_)
      rw [f1.1 a (Ne.symm h77)]
      show _ = if j0 ≤ j ∧ j < j0 + kN κ then kDf κ (j - j0) else g j
      by_cases e : j0 ≤ j
      · rw [if_pos ⟨e, j2⟩, ← hp (j - j0) (by omega) (by omega)]
        congr 1
        omega
      · rw [if_neg (fun q => e q.1), hl j (by omega)]
        exact hk j j1 (by omega)
    | m + 1, hi =>
      refine zgo ck_M_items 300 2 _ _ _ _ rfl (sg_M_items_2 ?_)
      try simp (disch := omega) only [zup_e, zup_ak, zup_j, Int.zero_add, Int.reduceAdd, mz78, mz79, mz80, mz81, mz82, mz83, mz84, mz85, mz86, mz87, mz88, mz89, mz90, mz91, mz92, mz93, mz94, mz95, mz96, mz97, mz98, mz99, mz100, mz101, mz102, mz103, mz104, mz105, mz106, mz107, mz108, mz109, mz110, mz111, mz112, mz113, hzc]
      refine ⟨fun q1 => ⟨by first | decide | omega | contradiction | exact absurd trivial (by assumption), ?_⟩, fun q2 => ⟨⟨by first | decide | omega | contradiction | exact absurd trivial (by assumption), by first | decide | omega | contradiction | exact absurd trivial (by assumption)⟩, ?_⟩⟩
      try (any_goals (exfalso; first | omega | exact absurd trivial (by assumption)))
      refine c_M_usual hκ (by omega) ?_
      refine ⟨by first | decide | omega | contradiction | exact absurd trivial (by assumption), ⟨by first | decide | omega | contradiction | exact absurd trivial (by assumption), by first | decide | omega | contradiction | exact absurd trivial (by assumption)⟩, ⟨by first | decide | omega | contradiction | exact absurd trivial (by assumption), by first | decide | omega | contradiction | exact absurd trivial (by assumption)⟩, ?_⟩
      refine itm_2 ht hκ ha hzc ⟨L, hzl, hTL, hL15⟩ hj hX h3 h0 h1 hk K m (i + 1) (by omega) (fun b q => (zup_a q).trans (hF b q)) (fun j q => by rw [zup_j (by omega)]; exact hl j q) (fun k k1 k2 => ?_)
      by_cases e : k = i
      · rw [e, zup_s]
      · rw [zup_j (by omega)]
        exact hp k k1 (by omega)
theorem c_M_items {X : zTp} {κ a n j0 p ch : Int} {g : Int → Int} {f : Nat} (ht : tOk X) (hκ : κ = 0 ∨ κ = 1 ∨ κ = 2) (hch : ch = kCh κ) (ha : 88 ≤ a ∧ a ≤ 90) (hzc : zCL a = 20) (hj : j0 = kN κ * n) (hn : 0 ≤ j0) (hzl : ∃ L : Int, zLN a = L ∧ j0 + kN κ ≤ L ∧ L ≤ 15) (hX : TM v X) (h3 : v 77 3 = p) (hw : v 77 4 = -1) (h0 : 0 ≤ p) (h1 : p ≤ X.2) (hf : X.2 - p < f) (hk : KPm v a j0 g)
    (Ke : ∀ (e : Int) (v' : zH), pIts X κ (kN κ * n) f p 0 (uDf κ n g) = .error e → FI a v v' → ErS X v' e → Q 0 v')
    (Ko : ∀ (q : Int) (g' : Int → Int) (v' : zH), pIts X κ (kN κ * n) f p 0 (uDf κ n g) = .ok (q, g') → FI a v v' → v' 77 3 = q → v' 77 4 = -1 → KPm v' a (j0 + kN κ) g' → Q 0 v') : zC l G 1 (d + 4) h_M_items [(2, 77), (0, ch), (2, a), (0, j0), (0, kN κ)] v 115 Q := by
  subst hch
  have hkn := kN_c κ
  refine zC_at ok_M_items ck_M_items rfl rfl (sg_M_items_0 ?_)
  try simp (disch := omega) only [zup_e, zup_ak, zup_j, Int.zero_add, Int.reduceAdd, mz78, mz79, mz80, mz81, mz82, mz83, mz84, mz85, mz86, mz87, mz88, mz89, mz90, mz91, mz92, mz93, mz94, mz95, mz96, mz97, mz98, mz99, mz100, mz101, mz102, mz103, mz104, mz105, mz106, mz107, mz108, mz109, mz110, mz111, mz112, mz113, hzc]
  refine itm_2 (v0 := v) ht hκ ha hzc hzl hn hX h3 h0 h1 hk (fun v1 f1 f2 f3 f4 => ?_) (kN κ).toNat 0 (by omega) (fun _ _ => rfl) (fun _ _ => rfl) (fun k k1 k2 => by omega)
  refine itm_22 (v0 := v) (T := j0 + kN κ) (R := pIts X κ (kN κ * n) f p 0 (uDf κ n g)) ht hκ ha hzc hzl ⟨hn, rfl⟩ Ke Ko f (TM_I f1 (by omega) hX) f1 f2 (by rw [f3]; exact hw) f4 h0 h1 hf ?_
  unfold uDf
  rw [← hj]
-- a row
theorem rwm_15 {X : zTp} {Rr : Int} {lens : Int → Int} {v0 : zH} {R : zPx (Int × (Int → Int))} {QX : Nat → zH → Prop} (ht : tOk X) (hR0 : 0 ≤ Rr ∧ Rr < 4) (hl : ∀ r : Int, 0 ≤ r → r < Rr → lens r ≤ 6) (h23 : v0 77 23 = Rr)
    (Ke : ∀ (e : Int) (v' : zH), R = .error e → (∀ b : Int, b ≠ 77 → b ≠ 91 → v' b = v0 b) → (∀ k : Int, k ≠ 3 → k ≠ 4 → v' 77 k = v0 77 k) → v' 77 4 = e → 0 ≤ e → (0 ≤ v' 77 3 ∧ v' 77 3 ≤ X.2) → Q 0 v')
    (Ko : ∀ (q n : Int) (g : Int → Int) (v' : zH), R = .ok (q, (n, g)) → (∀ b : Int, b ≠ 77 → b ≠ 91 → b ≠ 92 → v' b = v0 b) → (∀ k : Int, k ≠ 3 → k ≠ 23 → v' 77 k = v0 77 k) → v' 77 3 = q → v' 77 23 = Rr + 1 → (∀ r : Int, v' 92 r = if r = Rr then n else v0 92 r) → LTm v' Rr lens n g → Q 0 v') :
    ∀ (f : Nat) {v : zH} {q n : Int} {g : Int → Int}, n + f = 7 → 0 ≤ n → n ≤ 6 → (n = 0 → 65 ≤ pC X q ∧ pC X q ≤ 68) → TM v X → (∀ b : Int, b ≠ 77 → b ≠ 91 → v b = v0 b) → (∀ k : Int, k ≠ 3 → v 77 k = v0 77 k) → v 77 3 = pS X q → v 77 4 = -1 → 0 ≤ q → q ≤ X.2 → LTm v Rr lens n g → R = pRw X Rr f q n g →
    zJ l G 1 (d + 3) h_M_rowText k_M_rowText 115 Q QX 15 [(2, 77), (0, n), (0, pC X q - 65)] [] v 115
  | 0, v, q, n, g, hf, hn0, hn6, hc0, hX, hF, hj, hq, hw, h0, h1, hL, hR => by omega
  | f + 1, v, q, n, g, hf, hn0, hn6, hc0, hX, hF, hj, hq, hw, h0, h1, hL, hR => by
    have hb := pS_b (X := X) q
    have hcn := pC_nn (p := q) ht h0
    have hn1 := ht.1
    have e23 : v 77 23 = Rr := by rw [hj 23 (by omega)]; exact h23
    unfold pRw at hR
    by_cases hc : 65 ≤ pC X q ∧ pC X q ≤ 68
    · rw [if_pos hc] at hR
      have hlt : pS X q < X.2 := pC_lt (by omega)
      by_cases h6 : n = 6
      · rw [if_pos h6] at hR
        refine zgo ck_M_rowText 300 15 _ _ _ _ rfl (sg_M_rowText_15 ?_)
        try simp (disch := omega) only [zup_e, zup_ak, zup_j, Int.zero_add, Int.reduceAdd, mz78, mz79, mz80, mz81, mz82, mz83, mz84, mz85, mz86, mz87, mz88, mz89, mz90, mz91, mz92, mz93, mz94, mz95, mz96, mz97, mz98, mz99, mz100, mz101, mz102, mz103, mz104, mz105, mz106, mz107, mz108, mz109, mz110, mz111, mz112, mz113, e23]
        refine ⟨by first | decide | omega | contradiction | exact absurd trivial (by assumption), ⟨fun q1 => ⟨by first | decide | omega | contradiction | exact absurd trivial (by assumption), by first | decide | omega | contradiction | exact absurd trivial (by assumption), by first | decide | omega | contradiction | exact absurd trivial (by assumption), ⟨by first | decide | omega | contradiction | exact absurd trivial (by assumption), by first | decide | omega | contradiction | exact absurd trivial (by assumption)⟩, by first | decide | omega | contradiction | exact absurd trivial (by assumption), ⟨by first | decide | omega | contradiction | exact absurd trivial (by assumption), by first | decide | omega | contradiction | exact absurd trivial (by assumption)⟩, by first | decide | omega | contradiction | exact absurd trivial (by assumption), ?_⟩, fun q2 => ?_⟩⟩
        try (any_goals (exfalso; first | omega | exact absurd trivial (by assumption)))
        refine c_M_in ?_
        rw [if_pos (by omega)]
        refine ⟨fun q1 => ⟨by first | decide | omega | contradiction | exact absurd trivial (by assumption), by first | decide | omega | contradiction | exact absurd trivial (by assumption), by first | decide | omega | contradiction | exact absurd trivial (by assumption), ⟨by first | decide | omega | contradiction | exact absurd trivial (by assumption), by first | decide | omega | contradiction | exact absurd trivial (by assumption)⟩, by first | decide | omega | contradiction | exact absurd trivial (by assumption), ⟨by first | decide | omega | contradiction | exact absurd trivial (by assumption), by first | decide | omega | contradiction | exact absurd trivial (by assumption)⟩, by first | decide | omega | contradiction | exact absurd trivial (by assumption), ?_⟩, fun q2 => ⟨fun q3 => ⟨by first | decide | omega | contradiction | exact absurd trivial (by assumption), by first | decide | omega | contradiction | exact absurd trivial (by assumption), ⟨by first | decide | omega | contradiction | exact absurd trivial (by assumption), by first | decide | omega | contradiction | exact absurd trivial (by assumption)⟩, ⟨by first | decide | omega | contradiction | exact absurd trivial (by assumption), by first | decide | omega | contradiction | exact absurd trivial (by assumption)⟩, by first | decide | omega | contradiction | exact absurd trivial (by assumption), ⟨by first | decide | omega | contradiction | exact absurd trivial (by assumption), by first | decide | omega | contradiction | exact absurd trivial (by assumption)⟩, ⟨by first | decide | omega | contradiction | exact absurd trivial (by assumption), by first | decide | omega | contradiction | exact absurd trivial (by assumption)⟩, by first | decide | omega | contradiction | exact absurd trivial (by assumption), ⟨by first | decide | omega | contradiction | exact absurd trivial (by assumption), by first | decide | omega | contradiction | exact absurd trivial (by assumption)⟩, by first | decide | omega | contradiction | exact absurd trivial (by assumption), by first | decide | omega | contradiction | exact absurd trivial (by assumption), ?_⟩, fun q4 => ⟨by first | decide | omega | contradiction | exact absurd trivial (by assumption), ?_⟩⟩⟩
        try (any_goals (exfalso; first | omega | exact absurd trivial (by assumption)))
        refine c_M_bad hw ?_
        exact Ke _ _ hR (fun b b1 b2 => by rw [zup_a b1]; exact hF b b1 b2) (fun k k1 k2 => by rw [zup_j k2]; exact hj k k1) (zup_s.trans hq) (by omega) (by rw [zup_j (by omega)]; omega)
      · rw [if_neg h6] at hR
        refine zgo ck_M_rowText 300 15 _ _ _ _ rfl (sg_M_rowText_15 ?_)
        try simp (disch := omega) only [zup_e, zup_ak, zup_j, Int.zero_add, Int.reduceAdd, mz78, mz79, mz80, mz81, mz82, mz83, mz84, mz85, mz86, mz87, mz88, mz89, mz90, mz91, mz92, mz93, mz94, mz95, mz96, mz97, mz98, mz99, mz100, mz101, mz102, mz103, mz104, mz105, mz106, mz107, mz108, mz109, mz110, mz111, mz112, mz113, e23]
        refine ⟨by first | decide | omega | contradiction | exact absurd trivial (by assumption), ⟨fun q1 => ⟨by first | decide | omega | contradiction | exact absurd trivial (by assumption), by first | decide | omega | contradiction | exact absurd trivial (by assumption), by first | decide | omega | contradiction | exact absurd trivial (by assumption), ⟨by first | decide | omega | contradiction | exact absurd trivial (by assumption), by first | decide | omega | contradiction | exact absurd trivial (by assumption)⟩, by first | decide | omega | contradiction | exact absurd trivial (by assumption), ⟨by first | decide | omega | contradiction | exact absurd trivial (by assumption), by first | decide | omega | contradiction | exact absurd trivial (by assumption)⟩, by first | decide | omega | contradiction | exact absurd trivial (by assumption), ?_⟩, fun q2 => ?_⟩⟩
        try (any_goals (exfalso; first | omega | exact absurd trivial (by assumption)))
        refine c_M_in ?_
        rw [if_pos (by omega)]
        show _
        simp only [e23, hq]
        refine ⟨fun q1 => ⟨by first | decide | omega | contradiction | exact absurd trivial (by assumption), by first | decide | omega | contradiction | exact absurd trivial (by assumption), by first | decide | omega | contradiction | exact absurd trivial (by assumption), ⟨by first | decide | omega | contradiction | exact absurd trivial (by assumption), by first | decide | omega | contradiction | exact absurd trivial (by assumption)⟩, by first | decide | omega | contradiction | exact absurd trivial (by assumption), ⟨by first | decide | omega | contradiction | exact absurd trivial (by assumption), by first | decide | omega | contradiction | exact absurd trivial (by assumption)⟩, by first | decide | omega | contradiction | exact absurd trivial (by assumption), ?_⟩, fun q2 => ⟨fun q3 => ⟨by first | decide | omega | contradiction | exact absurd trivial (by assumption), by first | decide | omega | contradiction | exact absurd trivial (by assumption), ⟨by first | decide | omega | contradiction | exact absurd trivial (by assumption), by first | decide | omega | contradiction | exact absurd trivial (by assumption)⟩, ⟨by first | decide | omega | contradiction | exact absurd trivial (by assumption), by first | decide | omega | contradiction | exact absurd trivial (by assumption)⟩, by first | decide | omega | contradiction | exact absurd trivial (by assumption), ⟨by first | decide | omega | contradiction | exact absurd trivial (by assumption), by first | decide | omega | contradiction | exact absurd trivial (by assumption)⟩, ⟨by first | decide | omega | contradiction | exact absurd trivial (by assumption), by first | decide | omega | contradiction | exact absurd trivial (by assumption)⟩, by first | decide | omega | contradiction | exact absurd trivial (by assumption), ⟨by first | decide | omega | contradiction | exact absurd trivial (by assumption), by first | decide | omega | contradiction | exact absurd trivial (by assumption)⟩, by first | decide | omega | contradiction | exact absurd trivial (by assumption), by first | decide | omega | contradiction | exact absurd trivial (by assumption), ?_⟩, fun q4 => ⟨by first | decide | omega | contradiction | exact absurd trivial (by assumption), ?_⟩⟩⟩
        try (any_goals (exfalso; first | omega | exact absurd trivial (by assumption)))
        refine c_M_look ht (p := pS X q + 1) (TM_A FA_up (TM_fr (by rw [zup_a (by omega)]) (zup_a (by omega)) hX)) zup_s (by omega) (by omega) (fun v1 s1 s2 => ?_)
        have hcn2 := pC_nn (p := pS X q + 1) ht (by omega)
        refine ⟨⟨by first | decide | omega | contradiction | exact absurd trivial (by assumption), by first | decide | omega | contradiction | exact absurd trivial (by assumption)⟩, ?_⟩
        have f91 : v1 91 = (zupd v 91 (10 * Rr + n) (pC X q - 65)) 91 := (s1.1 91 (by omega)).trans (zup_a (by omega))
        have hb2 := pS_b (X := X) (pS X q + 1)
        refine rwm_15 ht hR0 hl h23 Ke Ko f (n := n + 1) (q := pS X q + 1) (g := upf g (6 * Rr + n) (pC X q - 65)) (by omega) (by omega) (by omega) (fun e => by omega) (TM_A s1 (TM_A FA_up (TM_fr (by rw [zup_a (by omega)]) (zup_a (by omega)) hX))) (fun b b1 b2 => by rw [s1.1 b b1, zup_a b1, zup_a b2]; exact hF b b1 b2) (fun k k1 => by rw [s1.2 k k1, zup_j k1, zup_a (by omega)]; exact hj k k1) s2 (by rw [s1.2 4 (by omega), zup_j (by omega), zup_a (by omega)]; exact hw) (by omega) (by omega) ⟨fun r c r1 r2 c1 c2 => ?_, fun c c1 c2 => ?_⟩ hR
        · have := hl r r1 r2
          rw [f91, zup_j (by omega), upf_n (by omega)]
          exact hL.1 r c r1 r2 c1 c2
        · rw [f91]
          by_cases e : c = n
          · rw [e, zup_s, upf_s]
          · rw [zup_j (by omega), upf_n (by omega)]
            exact hL.2 c c1 (by omega)
    · rw [if_neg hc, if_neg (fun e => hc (hc0 e))] at hR
      have fin := Ko _ _ _ (zupd (zupd v 92 Rr n) 77 23 (Rr + 1)) hR (fun b b1 b2 b3 => by rw [zup_a b1, zup_a b3]; exact hF b b1 b2) (fun k k1 k2 => by rw [zup_j k2, zup_a (by omega)]; exact hj k k1) (by rw [zup_j (by omega), zup_a (by omega)]; exact hq) zup_s (fun r => by
        rw [zup_a (by omega)]
        by_cases e : r = Rr
        · rw [e, zup_s, if_pos rfl]
        · rw [zup_j e, if_neg e, hF 92 (by omega) (by omega)]) (by
        unfold LTm
        rw [zup_a (by omega), zup_a (by omega)]
        exact hL)
      refine zgo ck_M_rowText 300 15 _ _ _ _ rfl (sg_M_rowText_15 ?_)
      try simp (disch := omega) only [zup_e, zup_ak, zup_j, Int.zero_add, Int.reduceAdd, mz78, mz79, mz80, mz81, mz82, mz83, mz84, mz85, mz86, mz87, mz88, mz89, mz90, mz91, mz92, mz93, mz94, mz95, mz96, mz97, mz98, mz99, mz100, mz101, mz102, mz103, mz104, mz105, mz106, mz107, mz108, mz109, mz110, mz111, mz112, mz113, e23]
      refine ⟨by first | decide | omega | contradiction | exact absurd trivial (by assumption), ⟨fun q1 => ⟨by first | decide | omega | contradiction | exact absurd trivial (by assumption), by first | decide | omega | contradiction | exact absurd trivial (by assumption), by first | decide | omega | contradiction | exact absurd trivial (by assumption), ⟨by first | decide | omega | contradiction | exact absurd trivial (by assumption), by first | decide | omega | contradiction | exact absurd trivial (by assumption)⟩, by first | decide | omega | contradiction | exact absurd trivial (by assumption), ⟨by first | decide | omega | contradiction | exact absurd trivial (by assumption), by first | decide | omega | contradiction | exact absurd trivial (by assumption)⟩, by first | decide | omega | contradiction | exact absurd trivial (by assumption), ?_⟩, fun q2 => ?_⟩⟩
      try (any_goals (exfalso; first | omega | exact absurd trivial (by assumption)))
      refine c_M_in ?_
      rw [if_neg (by omega)]
      show _
      simp only [e23]
      refine ⟨fun q1 => ⟨by first | decide | omega | contradiction | exact absurd trivial (by assumption), by first | decide | omega | contradiction | exact absurd trivial (by assumption), by first | decide | omega | contradiction | exact absurd trivial (by assumption), ⟨by first | decide | omega | contradiction | exact absurd trivial (by assumption), by first | decide | omega | contradiction | exact absurd trivial (by assumption)⟩, by first | decide | omega | contradiction | exact absurd trivial (by assumption), ⟨by first | decide | omega | contradiction | exact absurd trivial (by assumption), by first | decide | omega | contradiction | exact absurd trivial (by assumption)⟩, by first | decide | omega | contradiction | exact absurd trivial (by assumption), ?_⟩, fun q2 => ⟨fun q3 => ⟨by first | decide | omega | contradiction | exact absurd trivial (by assumption), by first | decide | omega | contradiction | exact absurd trivial (by assumption), ⟨by first | decide | omega | contradiction | exact absurd trivial (by assumption), by first | decide | omega | contradiction | exact absurd trivial (by assumption)⟩, ⟨by first | decide | omega | contradiction | exact absurd trivial (by assumption), by first | decide | omega | contradiction | exact absurd trivial (by assumption)⟩, by first | decide | omega | contradiction | exact absurd trivial (by assumption), ⟨by first | decide | omega | contradiction | exact absurd trivial (by assumption), by first | decide | omega | contradiction | exact absurd trivial (by assumption)⟩, ⟨by first | decide | omega | contradiction | exact absurd trivial (by assumption), by first | decide | omega | contradiction | exact absurd trivial (by assumption)⟩, by first | decide | omega | contradiction | exact absurd trivial (by assumption), ⟨by first | decide | omega | contradiction | exact absurd trivial (by assumption), by first | decide | omega | contradiction | exact absurd trivial (by assumption)⟩, by first | decide | omega | contradiction | exact absurd trivial (by assumption), by first | decide | omega | contradiction | exact absurd trivial (by assumption), ?_⟩, fun q4 => ⟨by first | decide | omega | contradiction | exact absurd trivial (by assumption), ?_⟩⟩⟩
      try (any_goals (exfalso; first | omega | exact absurd trivial (by assumption)))
      exact fin
theorem c_M_rowText {X : zTp} {Rr p : Int} {lens g : Int → Int} (ht : tOk X) (hR0 : 0 ≤ Rr ∧ Rr < 4) (hl : ∀ r : Int, 0 ≤ r → r < Rr → lens r ≤ 6) (h23 : v 77 23 = Rr) (hX : TM v X) (h3 : v 77 3 = p) (hw : v 77 4 = -1) (h0 : 0 ≤ p) (h1 : p ≤ X.2) (hL : LTm v Rr lens 0 g)
    (Ke : ∀ (e : Int) (v' : zH), pRw X Rr 7 p 0 g = .error e → (∀ b : Int, b ≠ 77 → b ≠ 91 → v' b = v b) → (∀ k : Int, k ≠ 3 → k ≠ 4 → v' 77 k = v 77 k) → v' 77 4 = e → 0 ≤ e → (0 ≤ v' 77 3 ∧ v' 77 3 ≤ X.2) → Q 0 v')
    (Ko : ∀ (q n : Int) (g' : Int → Int) (v' : zH), pRw X Rr 7 p 0 g = .ok (q, (n, g')) → (∀ b : Int, b ≠ 77 → b ≠ 91 → b ≠ 92 → v' b = v b) → (∀ k : Int, k ≠ 3 → k ≠ 23 → v' 77 k = v 77 k) → v' 77 3 = q → v' 77 23 = Rr + 1 → (∀ r : Int, v' 92 r = if r = Rr then n else v 92 r) → LTm v' Rr lens n g' → Q 0 v') : zC l G 1 (d + 3) h_M_rowText [(2, 77)] v 115 Q := by
  have hb := pS_b (X := X) p
  have hcn := pC_nn (p := p) ht h0
  have hn1 := ht.1
  refine zC_at ok_M_rowText ck_M_rowText rfl rfl (sg_M_rowText_0 ?_)
  try simp (disch := omega) only [zup_e, zup_ak, zup_j, Int.zero_add, Int.reduceAdd, mz78, mz79, mz80, mz81, mz82, mz83, mz84, mz85, mz86, mz87, mz88, mz89, mz90, mz91, mz92, mz93, mz94, mz95, mz96, mz97, mz98, mz99, mz100, mz101, mz102, mz103, mz104, mz105, mz106, mz107, mz108, mz109, mz110, mz111, mz112, mz113]
  refine ⟨by first | decide | omega | contradiction | exact absurd trivial (by assumption), ?_⟩
  try (any_goals (exfalso; first | omega | exact absurd trivial (by assumption)))
  refine c_M_look ht hX h3 h0 h1 (fun v1 f1 f2 => ?_)
  have w1 : v1 77 4 = -1 := by rw [f1.2 4 (by omega)]; exact hw
  refine ⟨⟨by first | decide | omega | contradiction | exact absurd trivial (by assumption), by first | decide | omega | contradiction | exact absurd trivial (by assumption)⟩, ?_⟩
  try (any_goals (exfalso; first | omega | exact absurd trivial (by assumption)))
  refine c_M_in ?_
  by_cases hc : 65 ≤ pC X p ∧ pC X p ≤ 68
  · rw [if_pos (by omega)]
    refine ⟨fun q1 => ?_, fun q2 => ⟨by first | decide | omega | contradiction | exact absurd trivial (by assumption), ?_⟩⟩
    try (any_goals (exfalso; first | omega | exact absurd trivial (by assumption)))
    refine rwm_15 (v0 := v1) (R := pRw X Rr 7 p 0 g) ht hR0 hl (by rw [f1.2 23 (by omega)]; exact h23) (fun e v' a1 a2 a3 a4 a5 a6 => Ke e v' a1 (fun b b1 b2 => (a2 b b1 b2).trans (f1.1 b b1)) (fun k k1 k2 => (a3 k k1 k2).trans (f1.2 k k1)) a4 a5 a6) (fun q n g' v' a1 a2 a3 a4 a5 a6 a7 => Ko q n g' v' a1 (fun b b1 b2 b3 => (a2 b b1 b2 b3).trans (f1.1 b b1)) (fun k k1 k2 => (a3 k k1 k2).trans (f1.2 k k1)) a4 a5 (fun r => by rw [a6 r, f1.1 92 (by omega)]) a7) 7 (by omega) (by omega) (by omega) (fun _ => hc) (TM_A f1 hX) (fun _ _ _ => rfl) (fun _ _ => rfl) f2 w1 h0 h1 ?_ rfl
    unfold LTm
    rw [f1.1 91 (by omega)]
    exact hL
  · have hR : pRw X Rr 7 p 0 g = .error (pS X p) := by
      show (if 65 ≤ pC X p ∧ pC X p ≤ 68 then _ else if (0 : Int) = 0 then Except.error (pS X p) else _) = _
      rw [if_neg hc, if_pos rfl]
    rw [if_neg (by omega)]
    refine ⟨fun q1 => ?_, fun q2 => ⟨by first | decide | omega | contradiction | exact absurd trivial (by assumption), ?_⟩⟩
    try (any_goals (exfalso; first | omega | exact absurd trivial (by assumption)))
    refine c_M_bad w1 ?_
    exact Ke _ _ hR (fun b b1 b2 => by rw [zup_a b1]; exact f1.1 b b1) (fun k k1 k2 => by rw [zup_j k2]; exact f1.2 k k1) (zup_s.trans f2) (by omega) (by rw [zup_j (by omega)]; omega)
end
