/-! THE CLASS: a wall read -/
theorem kIt_m1 {κ : Int} : kIt κ (-1) = -1 := by
  unfold kIt
  repeat' split
  all_goals first | rfl | omega
theorem pC_nn {X : zTp} {p : Int} (ht : tOk X) (h0 : 0 ≤ p) : pC X p = -1 ∨ (1 ≤ pC X p ∧ pC X p ≤ 255) := by
  have hb := pS_b (X := X) p
  unfold pC
  split
  · rename_i h
    exact Or.inr (ht.2 _ (by omega) h)
  · exact Or.inl rfl
def LT (v : zH) (w R : Int) (lens : Int → Int) (n : Int) (g : Int → Int) : Prop := (∀ r c : Int, 0 ≤ r → r < R → 0 ≤ c → c < lens r → v (w + 7) (6 * r + c) = g (6 * r + c)) ∧ ∀ c : Int, 0 ≤ c → c < n → v (w + 7) (6 * R + c) = g (6 * R + c)
def DR (v : zH) (w : Int) (D : zDf) : Prop := KP v (w + 1) 0 (dS D) (dT D) ∧ KP v (w + 3) 1 (dO D) (dV D) ∧ KP v (w + 5) 2 (dZ D) (dL D) ∧ v w 9 = dR D ∧ (∀ r : Int, 0 ≤ r → r < dR D → v (w + 8) r = dW D r) ∧ LT v w (dR D) (dW D) 0 (dE D)
def Fw (w : Int) (v v' : zH) : Prop := ∀ b : Int, b ≠ 3 → (b < w ∨ w + 12 < b) → v' b = v b
theorem Fw_rf {w : Int} {v : zH} : Fw w v v := fun _ _ _ => rfl
theorem Fw_tr {w : Int} {u v x : zH} (h : Fw w u v) (g : Fw w v x) : Fw w u x := fun b q0 q1 => (g b q0 q1).trans (h b q0 q1)
theorem DR_fr {v v' : zH} {w : Int} {D : zDf} (h : ∀ b : Int, w ≤ b → b ≤ w + 8 → v' b = v b) (k : DR v w D) : DR v' w D := by
  obtain ⟨k1, k2, k3, k4, k5, k6⟩ := k
  refine ⟨KP_fr (h _ (by omega) (by omega)) (h _ (by omega) (by omega)) k1, KP_fr (h _ (by omega) (by omega)) (h _ (by omega) (by omega)) k2, KP_fr (h _ (by omega) (by omega)) (h _ (by omega) (by omega)) k3, ?_, fun r h1 h2 => ?_, ?_⟩
  · rw [h w (by omega) (by omega)]; exact k4
  · rw [h (w + 8) (by omega) (by omega)]; exact k5 r h1 h2
  · unfold LT
    rw [h (w + 7) (by omega) (by omega)]
    exact k6
section
variable {l : Launch} {G : zG} {d : Nat} {v : zH} {Q : Int → zH → Prop}
theorem is_15 {X : zTp} {o n : Int} {v0 : zH} {R : zPx (Int → Int)} {QX : Nat → zH → Prop} (ht : tOk X) (ho : zki o) (hn : 0 ≤ n ∧ n < kMx (zKd o))
    (Ke : ∀ (e : Int) (v' : zH), R = .error e → (∀ b : Int, b ≠ 3 → b ≠ o → b ≠ o + 1 → v' b = v0 b) → v' 3 1 = e → Q 0 v')
    (Ko : ∀ (q : Int) (g : Int → Int) (v' : zH), R = .ok (q, g) → (∀ b : Int, b ≠ 3 → b ≠ o → b ≠ o + 1 → v' b = v0 b) → v' 3 1 = q → KP v' o (zKd o) (n + 1) g → Q 1 v') :
    ∀ (f : Nat) {v : zH} {q seen i : Int} {g : Int → Int}, TP v X → (∀ b : Int, b ≠ 3 → b ≠ o → b ≠ o + 1 → v b = v0 b) → v 3 1 = q → KP v o (zKd o) (n + 1) g → 0 ≤ q → q ≤ X.2 → X.2 - q < f → 0 ≤ i → i ≤ q → R = pIts X (zKd o) (kN (zKd o) * n) f q seen g →
    zJ l G 1 (d + 6) h_WR_items k_WR_items 115 Q QX 15 [(2, 3), (2, o), (0, seen), (0, i), (3, 0), (3, 0)] [] v 115
  | 0, v, q, seen, i, g, hX, hF, hq, hk, h0, h1, hf, hi0, hi, hR => by omega
  | f + 1, v, q, seen, i, g, hX, hF, hq, hk, h0, h1, hf, hi0, hi, hR => by
    have hb := pS_b (X := X) q
    have hki := kIt_b (κ := zKd o) (c := pC X q)
    have f1 := (zki_f ho).1
    have hcn := pC_nn (p := q) ht h0
    have hn1 := ht.1
    have e31 : (3 + (-2) : Int) = 1 := rfl
    have ho3 : 50 ≤ o := by rcases ho with rfl | rfl | rfl | rfl | rfl | rfl <;> omega
    have hfr : ∀ {v' : zH}, (∀ b : Int, b ≠ 3 → v' b = v b) → (∀ b : Int, b ≠ 3 → b ≠ o → b ≠ o + 1 → v' b = v0 b) := fun s b a1 a2 a3 => (s b a1).trans (hF b a1 a2 a3)
    have hkp : ∀ {v' : zH}, (∀ b : Int, b ≠ 3 → v' b = v b) → KP v' o (zKd o) (n + 1) g := fun s => KP_fr (s o (by omega)) (s (o + 1) (by omega)) hk
    have htp : ∀ {v' : zH}, (∀ b : Int, b ≠ 3 → v' b = v b) → TP v' X := fun s => TP_fr (fun a r => s a (by omega)) hX
    unfold pIts at hR
    refine zgo ck_WR_items 300 15 _ _ _ _ rfl (sg_WR_items_15 ?_)
    simp only [e31, hX.1]
    refine ⟨by first | decide | omega, by first | decide | omega, ⟨fun q1 => ⟨by first | decide | omega, ?_⟩, fun q2 => ⟨by first | decide | omega, ?_⟩⟩⟩
    try (any_goals (exfalso; first | omega | exact absurd trivial (by assumption)))
    refine c_WR_sign ht hX hq h0 h1 (fun v1 s1 s2 => ?_)
    refine ⟨by first | decide | omega, ?_⟩
    try (any_goals (exfalso; first | omega | exact absurd trivial (by assumption)))
    refine c_Ki_itemOf ho ?_
    by_cases hk1 : kIt (zKd o) (pC X q) = -1
    · rw [if_pos hk1] at hR
      refine ⟨fun q1 => ⟨fun q2 => ⟨by first | decide | omega, ⟨by first | decide | omega, by first | decide | omega⟩, by first | decide | omega, by first | decide | omega, ?_⟩, fun q3 => ⟨by first | decide | omega, ?_⟩⟩, fun q4 => ⟨by first | decide | omega, ?_⟩⟩
      try (any_goals (exfalso; first | omega | exact absurd trivial (by assumption)))
      exact Ko _ _ v1 hR (hfr s1) s2 (hkp s1)
    · rw [if_neg hk1] at hR
      have hlt : pS X q < X.2 := pC_lt (by
        rcases hcn with e | e
        · rw [e, kIt_m1] at hk1
          exact absurd rfl hk1
        · omega)
      by_cases hs : zand (zshr seen (kIt (zKd o) (pC X q))) 1 = 1
      · rw [if_pos hs] at hR
        refine ⟨fun q1 => ⟨fun q2 => ⟨by first | decide | omega, ⟨by first | decide | omega, by first | decide | omega⟩, by first | decide | omega, by first | decide | omega, ?_⟩, fun q3 => ⟨by first | decide | omega, ?_⟩⟩, fun q4 => ⟨by first | decide | omega, ?_⟩⟩
        try (any_goals (exfalso; first | omega | exact absurd trivial (by assumption)))
        exact Ke _ v1 hR (hfr s1) s2
      · rw [if_neg hs] at hR
        simp only [s2]
        refine ⟨fun q1 => ⟨fun q2 => ⟨by first | decide | omega, ⟨by first | decide | omega, by first | decide | omega⟩, by first | decide | omega, by first | decide | omega, ?_⟩, fun q3 => ⟨by first | decide | omega, ?_⟩⟩, fun q4 => ⟨by first | decide | omega, ?_⟩⟩
        try (any_goals (exfalso; first | omega | exact absurd trivial (by assumption)))
        have hfr2 : ∀ b : Int, b ≠ 3 → (zupd v1 3 1 (pS X q + 1)) b = v b := fun b r => (zup_a r).trans (s1 b r)
        refine c_WR_digits ht (M := 2) (by omega) (htp hfr2) (zup_e rfl rfl) (by omega) (by omega) (fun e v2 n1 n2 n3 => ?_) (fun q' x v2 n1 n2 n3 => ?_)
        · simp only [n1] at hR
          refine ⟨fun q1 => ⟨by first | decide | omega, ?_⟩, fun q2 => ⟨by first | decide | omega, ?_⟩⟩
          try (any_goals (exfalso; first | omega | exact absurd trivial (by assumption)))
          exact Ke _ v2 hR (hfr (fun b r => (n2 b r).trans (hfr2 b r))) n3
        · have hx := (pNm_b (X := X) (m := 2) (p := pS X q + 1) (by omega) (by omega)).2 q' x n1
          simp only [n1] at hR
          have hfr3 : ∀ b : Int, b ≠ 3 → v2 b = v b := fun b r => (n2 b r).trans (hfr2 b r)
          refine ⟨fun q1 => ⟨by first | decide | omega, ?_⟩, fun q2 => ⟨by first | decide | omega, ?_⟩⟩
          try (any_goals (exfalso; first | omega | exact absurd trivial (by assumption)))
          refine c_Ki_tells ho (by omega) (hkp hfr3) (by omega) (fun c => ?_) (fun c v3 t1 t2 => ?_)
          · rw [if_neg c] at hR
            simp only [n3]
            refine ⟨fun q1 => ⟨⟨by first | decide | omega, by first | decide | omega⟩, ?_⟩, fun q2 => ⟨by first | decide | omega, ⟨by first | decide | omega, by first | decide | omega⟩, by first | decide | omega, by first | decide | omega, ?_⟩⟩
            try (any_goals (exfalso; first | omega | exact absurd trivial (by assumption)))
            exact Ke _ _ hR (hfr (fun b r => (zup_a r).trans (hfr3 b r))) (zup_e rfl rfl)
          · rw [if_pos c] at hR
            have en : n + 1 - 1 = n := by omega
            rw [en] at t2
            refine ⟨fun q1 => ⟨⟨by first | decide | omega, by first | decide | omega⟩, ?_⟩, fun q2 => ⟨by first | decide | omega, ⟨by first | decide | omega, by first | decide | omega⟩, by first | decide | omega, by first | decide | omega, ?_⟩⟩
            try (any_goals (exfalso; first | omega | exact absurd trivial (by assumption)))
            refine is_15 ht ho hn Ke Ko f (TP_fr (fun a r => t1 a (by omega)) (htp hfr3)) (fun b a1 a2 a3 => (t1 b a3).trans (hfr hfr3 b a1 a2 a3)) ((congrFun (t1 3 (by omega)) 1).trans n3) t2 (by omega) (by omega) (by omega) (by omega) (by omega) hR
theorem c_WR_items {X : zTp} {o n p : Int} {g : Int → Int} (ht : tOk X) (ho : zki o) (hX : TP v X) (hn : 0 ≤ n ∧ n ≤ kMx (zKd o)) (hk : KP v o (zKd o) n g) (hp : v 3 1 = pS X p) (h0 : 0 ≤ p) (hlt : pS X p < X.2)
    (Ke : ∀ (e : Int) (v' : zH), pKd X (zKd o) n p g = .error e → (∀ b : Int, b ≠ 3 → b ≠ o → b ≠ o + 1 → v' b = v b) → v' 3 1 = e → Q 0 v')
    (Ko : ∀ (q : Int) (g' : Int → Int) (v' : zH), pKd X (zKd o) n p g = .ok (q, g') → (∀ b : Int, b ≠ 3 → b ≠ o → b ≠ o + 1 → v' b = v b) → v' 3 1 = q → KP v' o (zKd o) (n + 1) g' → Q 1 v') : zC l G 1 (d + 6) h_WR_items [(2, 3), (2, o)] v 115 Q := by
  have hb := pS_b (X := X) p
  have hn1 := ht.1
  have ho3 : 50 ≤ o := by rcases ho with rfl | rfl | rfl | rfl | rfl | rfl <;> omega
  have f1 := (zki_f ho).1
  unfold pKd at Ke Ko
  refine zC_at ok_WR_items ck_WR_items rfl rfl (sg_WR_items_0 ?_)
  refine ⟨by first | decide | omega, ?_⟩
  try (any_goals (exfalso; first | omega | exact absurd trivial (by assumption)))
  refine c_Ki_addsOne ho hn hk (fun e => ?_) (fun e v1 a1 a2 => ?_)
  · rw [if_pos e] at Ke
    refine ⟨fun q1 => ⟨by first | decide | omega, ⟨by first | decide | omega, by first | decide | omega⟩, by first | decide | omega, ?_⟩, fun q2 => ⟨by first | decide | omega, ?_⟩⟩
    try (any_goals (exfalso; first | omega | exact absurd trivial (by assumption)))
    exact Ke _ v rfl (fun _ _ _ _ => rfl) hp
  · rw [if_neg e] at Ke Ko
    have e3 : v1 3 1 = pS X p := (congrFun (a1 3 (by omega) (by omega)) 1).trans hp
    simp only [e3]
    refine ⟨fun q1 => ⟨by first | decide | omega, ⟨by first | decide | omega, by first | decide | omega⟩, by first | decide | omega, ?_⟩, fun q2 => ⟨by first | decide | omega, ?_⟩⟩
    try (any_goals (exfalso; first | omega | exact absurd trivial (by assumption)))
    refine is_15 ht ho (by omega) Ke Ko ((X.2 - pS X p).toNat + 1) (TP_fr (fun a r => (zup_a (by omega)).trans (a1 a (by omega) (by omega))) hX) (fun b r1 r2 r3 => (zup_a r1).trans (a1 b r2 r3)) (zup_e rfl rfl) (KP_fr (zup_a (by omega)) (zup_a (by omega)) a2) (by omega) (by omega) (by omega) (by omega) (by omega) rfl
theorem rw_17 {X : zTp} {w Rr : Int} {lens : Int → Int} {v0 : zH} {R : zPx (Int × (Int → Int))} {QX : Nat → zH → Prop} (ht : tOk X) (hw : zwo w) (hR0 : 0 ≤ Rr ∧ Rr < 4) (hl : ∀ r : Int, 0 ≤ r → r < Rr → lens r ≤ 6)
    (Ke : ∀ (e : Int) (v' : zH), R = .error e → (∀ b : Int, b ≠ 3 → b ≠ w + 7 → v' b = v0 b) → v' 3 1 = e → Q 0 v')
    (Ko : ∀ (q n : Int) (g : Int → Int) (v' : zH), R = .ok (q, (n, g)) → (∀ b : Int, b ≠ 3 → b ≠ w → b ≠ w + 7 → b ≠ w + 8 → v' b = v0 b) → v' 3 1 = q → v' w = (zupd v0 w 9 (Rr + 1)) w → v' (w + 8) = (zupd v0 (w + 8) Rr n) (w + 8) → LT v' w Rr lens n g → Q 1 v') :
    ∀ (f : Nat) {v : zH} {q n : Int} {g : Int → Int}, n + f = 7 → 0 ≤ n → n ≤ 6 → TP v X → (∀ b : Int, b ≠ 3 → b ≠ w + 7 → v b = v0 b) → v0 w 9 = Rr → v 3 1 = pS X q → 0 ≤ q → q ≤ X.2 → LT v w Rr lens n g → R = pRw X Rr f q n g →
    zJ l G 1 (d + 2) h_WR_row k_WR_row 115 Q QX 17 [(2, 3), (2, w), (0, n), (0, pC X q)] [] v 115
  | 0, v, q, n, g, hf, hn0, hn6, hX, hF, h9, hq, h0, h1, hL, hR => by omega
  | f + 1, v, q, n, g, hf, hn0, hn6, hX, hF, h9, hq, h0, h1, hL, hR => by
    have hb := pS_b (X := X) q
    have hcn := pC_nn (p := q) ht h0
    have hn1 := ht.1
    obtain ⟨w0, w1, w3, w5, ⟨w7, w7'⟩, ⟨w8, w8'⟩, ⟨w9, w9'⟩, ⟨w10, w10'⟩, ⟨w11, w11'⟩, ⟨w12, w12'⟩⟩ := zwo_f hw
    have hw5 : 51 ≤ w := by rcases hw with rfl | rfl <;> omega
    have e9 : v w 9 = Rr := by rw [hF w (by omega) (by omega)]; exact h9
    unfold pRw at hR
    refine zgo ck_WR_row 300 17 _ _ _ _ rfl (sg_WR_row_17 ?_)
    simp (disch := omega) only [zup_e, zup_ak, zup_j, e9, hq]
    by_cases hc : 65 ≤ pC X q ∧ pC X q ≤ 68
    · rw [if_pos hc] at hR
      have hlt : pS X q < X.2 := pC_lt (by omega)
      by_cases h6 : n = 6
      · rw [if_pos h6] at hR
        refine ⟨fun q1 => ⟨fun q2 => ⟨by first | decide | omega, by first | decide | omega, by first | decide | omega, ⟨by first | decide | omega, by first | decide | omega⟩, by first | decide | omega, ⟨by first | decide | omega, by first | decide | omega⟩, by first | decide | omega, by first | decide | omega, ?_⟩, fun q3 => ⟨by first | decide | omega, ?_⟩⟩, fun q4 => ⟨fun q5 => ⟨fun q6 => ⟨by first | decide | omega, by first | decide | omega, by first | decide | omega, ⟨by first | decide | omega, by first | decide | omega⟩, by first | decide | omega, ⟨by first | decide | omega, by first | decide | omega⟩, by first | decide | omega, by first | decide | omega, ?_⟩, fun q7 => ⟨by first | decide | omega, ?_⟩⟩, fun q8 => ⟨fun q9 => ⟨by first | decide | omega, by first | decide | omega, ⟨by first | decide | omega, by first | decide | omega⟩, ⟨by first | decide | omega, by first | decide | omega⟩, ⟨by first | decide | omega, by first | decide | omega⟩, by first | decide | omega, ⟨by first | decide | omega, by first | decide | omega⟩, ⟨by first | decide | omega, by first | decide | omega⟩, by first | decide | omega, ⟨by first | decide | omega, by first | decide | omega⟩, by first | decide | omega, by first | decide | omega, ?_⟩, fun q10 => ⟨by first | decide | omega, ?_⟩⟩⟩⟩
        try (any_goals (exfalso; first | omega | exact absurd trivial (by assumption)))
        exact Ke _ v hR hF hq
      · rw [if_neg h6] at hR
        refine ⟨fun q1 => ⟨fun q2 => ⟨by first | decide | omega, by first | decide | omega, by first | decide | omega, ⟨by first | decide | omega, by first | decide | omega⟩, by first | decide | omega, ⟨by first | decide | omega, by first | decide | omega⟩, by first | decide | omega, by first | decide | omega, ?_⟩, fun q3 => ⟨by first | decide | omega, ?_⟩⟩, fun q4 => ⟨fun q5 => ⟨fun q6 => ⟨by first | decide | omega, by first | decide | omega, by first | decide | omega, ⟨by first | decide | omega, by first | decide | omega⟩, by first | decide | omega, ⟨by first | decide | omega, by first | decide | omega⟩, by first | decide | omega, by first | decide | omega, ?_⟩, fun q7 => ⟨by first | decide | omega, ?_⟩⟩, fun q8 => ⟨fun q9 => ⟨by first | decide | omega, by first | decide | omega, ⟨by first | decide | omega, by first | decide | omega⟩, ⟨by first | decide | omega, by first | decide | omega⟩, ⟨by first | decide | omega, by first | decide | omega⟩, by first | decide | omega, ⟨by first | decide | omega, by first | decide | omega⟩, ⟨by first | decide | omega, by first | decide | omega⟩, by first | decide | omega, ⟨by first | decide | omega, by first | decide | omega⟩, by first | decide | omega, by first | decide | omega, ?_⟩, fun q10 => ⟨by first | decide | omega, ?_⟩⟩⟩⟩
        try (any_goals (exfalso; first | omega | exact absurd trivial (by assumption)))
        refine c_WR_sign ht (p := pS X q + 1) (TP_fr (fun a r => (zup_a (by omega)).trans (zup_a (by omega))) hX) (zup_e rfl rfl) (by omega) (by omega) (fun v1 s1 s2 => ?_)
        have f7 : v1 (w + 7) = (zupd v (w + 7) (Rr * 6 + n) (pC X q - 65)) (w + 7) := (s1 _ (by omega)).trans (zup_a (by omega))
        have c6 : ∀ x, Rr * 6 + x = 6 * Rr + x := fun x => by omega
        refine rw_17 ht hw hR0 hl Ke Ko f (n := n + 1) (q := pS X q + 1) (g := upf g (6 * Rr + n) (pC X q - 65)) (by omega) (by omega) (by omega) (TP_fr (fun a r => (s1 a (by omega)).trans ((zup_a (by omega)).trans (zup_a (by omega)))) hX) (fun b r1 r2 => (s1 b r1).trans ((zup_a r1).trans ((zup_a r2).trans (hF b r1 r2)))) h9 s2 (by omega) (by omega) ⟨fun r c q1 q2 q3 q4 => ?_, fun c q1 q2 => ?_⟩ hR
        · have := hl r q1 q2
          rw [f7, zup_j (by omega), upf_n (by omega)]
          exact hL.1 r c q1 q2 q3 q4
        · rw [f7]
          by_cases e : c = n
          · rw [e, zup_e rfl (by omega), upf_s]
          · rw [zup_j (by omega), upf_n (by omega)]
            exact hL.2 c q1 (by omega)
    · rw [if_neg hc] at hR
      by_cases h6 : n = 0
      · rw [if_pos h6] at hR
        refine ⟨fun q1 => ⟨fun q2 => ⟨by first | decide | omega, by first | decide | omega, by first | decide | omega, ⟨by first | decide | omega, by first | decide | omega⟩, by first | decide | omega, ⟨by first | decide | omega, by first | decide | omega⟩, by first | decide | omega, by first | decide | omega, ?_⟩, fun q3 => ⟨by first | decide | omega, ?_⟩⟩, fun q4 => ⟨fun q5 => ⟨fun q6 => ⟨by first | decide | omega, by first | decide | omega, by first | decide | omega, ⟨by first | decide | omega, by first | decide | omega⟩, by first | decide | omega, ⟨by first | decide | omega, by first | decide | omega⟩, by first | decide | omega, by first | decide | omega, ?_⟩, fun q7 => ⟨by first | decide | omega, ?_⟩⟩, fun q8 => ⟨fun q9 => ⟨by first | decide | omega, by first | decide | omega, ⟨by first | decide | omega, by first | decide | omega⟩, ⟨by first | decide | omega, by first | decide | omega⟩, ⟨by first | decide | omega, by first | decide | omega⟩, by first | decide | omega, ⟨by first | decide | omega, by first | decide | omega⟩, ⟨by first | decide | omega, by first | decide | omega⟩, by first | decide | omega, ⟨by first | decide | omega, by first | decide | omega⟩, by first | decide | omega, by first | decide | omega, ?_⟩, fun q10 => ⟨by first | decide | omega, ?_⟩⟩⟩⟩
        try (any_goals (exfalso; first | omega | exact absurd trivial (by assumption)))
        all_goals exact Ke _ v hR hF hq
      · rw [if_neg h6] at hR
        have fin : Q 1 (zupd (zupd v (w + 8) Rr n) w 9 (Rr + 1)) := by
          refine Ko _ _ _ _ hR (fun b r1 r2 r3 r4 => (zup_a r2).trans ((zup_a r4).trans (hF b r1 r3))) ?_ ?_ ?_ ?_
          · rw [zup_a (by omega), zup_a (by omega)]; exact hq
          · funext k
            have := congrFun (hF w (by omega) (by omega)) k
            unfold zupd
            split
            · rfl
            · rw [if_neg (by omega)]
              exact this
          · funext k
            have := congrFun (hF (w + 8) (by omega) (by omega)) k
            unfold zupd
            rw [if_neg (by omega)]
            split
            · rfl
            · exact this
          · unfold LT
            rw [zup_a (by omega), zup_a (by omega)]
            exact hL
        refine ⟨fun q1 => ⟨fun q2 => ⟨by first | decide | omega, by first | decide | omega, by first | decide | omega, ⟨by first | decide | omega, by first | decide | omega⟩, by first | decide | omega, ⟨by first | decide | omega, by first | decide | omega⟩, by first | decide | omega, by first | decide | omega, ?_⟩, fun q3 => ⟨by first | decide | omega, ?_⟩⟩, fun q4 => ⟨fun q5 => ⟨fun q6 => ⟨by first | decide | omega, by first | decide | omega, by first | decide | omega, ⟨by first | decide | omega, by first | decide | omega⟩, by first | decide | omega, ⟨by first | decide | omega, by first | decide | omega⟩, by first | decide | omega, by first | decide | omega, ?_⟩, fun q7 => ⟨by first | decide | omega, ?_⟩⟩, fun q8 => ⟨fun q9 => ⟨by first | decide | omega, by first | decide | omega, ⟨by first | decide | omega, by first | decide | omega⟩, ⟨by first | decide | omega, by first | decide | omega⟩, ⟨by first | decide | omega, by first | decide | omega⟩, by first | decide | omega, ⟨by first | decide | omega, by first | decide | omega⟩, ⟨by first | decide | omega, by first | decide | omega⟩, by first | decide | omega, ⟨by first | decide | omega, by first | decide | omega⟩, by first | decide | omega, by first | decide | omega, ?_⟩, fun q10 => ⟨by first | decide | omega, ?_⟩⟩⟩⟩
        try (any_goals (exfalso; first | omega | exact absurd trivial (by assumption)))
        all_goals exact fin
theorem c_WR_row {X : zTp} {w p : Int} {D : zDf} (ht : tOk X) (hw : zwo w) (hX : TP v X) (hD : DR v w D) (hd : dOk D) (hp : v 3 1 = pS X p) (h0 : 0 ≤ p) (hlt : pS X p < X.2)
    (K4 : dR D = 4 → Q 0 v)
    (Ke : dR D ≠ 4 → ∀ (e : Int) (v' : zH), pRw X (dR D) 7 (pS X p + 1) 0 (dE D) = .error e → Fw w v v' → v' 3 1 = e → Q 0 v')
    (Ko : dR D ≠ 4 → ∀ (q n : Int) (g : Int → Int) (v' : zH), pRw X (dR D) 7 (pS X p + 1) 0 (dE D) = .ok (q, (n, g)) → Fw w v v' → v' 3 1 = q → DR v' w (dS D, dT D, dO D, dV D, dZ D, dL D, dR D + 1, upf (dW D) (dR D) n, g) → Q 1 v') : zC l G 1 (d + 2) h_WR_row [(2, 3), (2, w)] v 115 Q := by
  have hb := pS_b (X := X) p
  have hn1 := ht.1
  obtain ⟨w0, w1, w3, w5, ⟨w7, w7'⟩, ⟨w8, w8'⟩, ⟨w9, w9'⟩, ⟨w10, w10'⟩, ⟨w11, w11'⟩, ⟨w12, w12'⟩⟩ := zwo_f hw
  have hw5 : 51 ≤ w := by rcases hw with rfl | rfl <;> omega
  obtain ⟨k1, k2, k3, k4, k5, k6⟩ := hD
  obtain ⟨d1, d2, d3, d4, d5⟩ := hd
  refine zC_at ok_WR_row ck_WR_row rfl rfl (sg_WR_row_0 ?_)
  simp only [k4, hp]
  by_cases h4 : dR D = 4
  · refine ⟨by first | decide | omega, ⟨fun q1 => ⟨by first | decide | omega, ⟨by first | decide | omega, by first | decide | omega⟩, by first | decide | omega, by first | decide | omega, ?_⟩, fun q2 => ⟨by first | decide | omega, ?_⟩⟩⟩
    try (any_goals (exfalso; first | omega | exact absurd trivial (by assumption)))
    exact K4 h4
  · refine ⟨by first | decide | omega, ⟨fun q1 => ⟨by first | decide | omega, ⟨by first | decide | omega, by first | decide | omega⟩, by first | decide | omega, by first | decide | omega, ?_⟩, fun q2 => ⟨by first | decide | omega, ?_⟩⟩⟩
    try (any_goals (exfalso; first | omega | exact absurd trivial (by assumption)))
    refine c_WR_sign ht (p := pS X p + 1) (TP_fr (fun a r => zup_a (by omega)) hX) (zup_e rfl rfl) (by omega) (by omega) (fun v1 s1 s2 => ?_)
    have hF : ∀ b : Int, b ≠ 3 → v1 b = v b := fun b r => (s1 b r).trans (zup_a r)
    refine rw_17 (v0 := v1) (R := pRw X (dR D) 7 (pS X p + 1) 0 (dE D)) (lens := dW D) ht hw (by omega) (fun r q1 q2 => (d5 r q1 q2).1.2) (fun e v' n1 n2 n3 => Ke h4 e v' n1 (fun b r1 r2 => (n2 b r1 (by omega)).trans (hF b r1)) n3) (fun q n g v' n1 n2 n3 n4 n5 n6 => ?_) 7 (by omega) (by omega) (by omega) (TP_fr (fun a r => hF a (by omega)) hX) (fun _ _ _ => rfl) ((congrFun (hF w (by omega)) 9).trans k4) s2 (by omega) (by omega) ?_ rfl
    · obtain ⟨-, r2⟩ := pRw_gd (X := X) (R := dR D) d4.1 7 (pS X p + 1) 0 (dE D) (by omega) (by omega) (by omega) (by omega) (fun c q1 q2 => by omega)
      obtain ⟨a1, a2, a3, a4, a5⟩ := r2 q n g n1
      have hG : ∀ b : Int, b ≠ 3 → b ≠ w → b ≠ w + 7 → b ≠ w + 8 → v' b = v b := fun b r1 r2 r3 r4 => (n2 b r1 r2 r3 r4).trans (hF b r1)
      refine Ko h4 q n g v' n1 (fun b r1 r2 => hG b r1 (by omega) (by omega) (by omega)) n3 ⟨KP_fr (hG _ (by omega) (by omega) (by omega) (by omega)) (hG _ (by omega) (by omega) (by omega) (by omega)) k1, KP_fr (hG _ (by omega) (by omega) (by omega) (by omega)) (hG _ (by omega) (by omega) (by omega) (by omega)) k2, KP_fr (hG _ (by omega) (by omega) (by omega) (by omega)) (hG _ (by omega) (by omega) (by omega) (by omega)) k3, ?_, fun r q1 q2 => ?_, fun r c q1 q2 q3 q4 => ?_, fun c q1 q2 => by omega⟩
      · rw [n4, zup_s]; rfl
      · have q2 : r < dR D + 1 := q2
        show v' (w + 8) r = upf (dW D) (dR D) n r
        rw [n5]
        by_cases e : r = dR D
        · rw [e, zup_s, upf_s]
        · rw [zup_j e, upf_n e, hF (w + 8) (by omega)]
          exact k5 r q1 (by omega)
      · have q2 : r < dR D + 1 := q2
        have q4 : c < upf (dW D) (dR D) n r := q4
        show v' (w + 7) (6 * r + c) = g (6 * r + c)
        by_cases e : r = dR D
        · rw [e, upf_s] at q4
          rw [e]
          exact n6.2 c q3 q4
        · rw [upf_n e] at q4
          exact n6.1 r c q1 (by omega) q3 q4
    · unfold LT
      rw [hF (w + 7) (by omega)]
      exact k6
theorem c_WR_clause {X : zTp} {w p : Int} {D : zDf} (ht : tOk X) (hw : zwo w) (hX : TP v X) (hD : DR v w D) (hd : dOk D) (hp : v 3 1 = p) (h0 : 0 ≤ p) (h1 : p ≤ X.2)
    (Ke : ∀ (e : Int) (v' : zH), pWc X p D = .error e → Fw w v v' → v' 3 1 = e → Q 0 v')
    (Ko : ∀ (q : Int) (E : zDf) (v' : zH), pWc X p D = .ok (q, E) → Fw w v v' → v' 3 1 = q → DR v' w E → Q 1 v') : zC l G 1 (d + 7) h_WR_clause [(2, 3), (2, w)] v 115 Q := by
  have hb := pS_b (X := X) p
  have hn1 := ht.1
  have hcn := pC_nn (p := p) ht h0
  obtain ⟨w0, w1, w3, w5, ⟨w7, w7'⟩, ⟨w8, w8'⟩, ⟨w9, w9'⟩, ⟨w10, w10'⟩, ⟨w11, w11'⟩, ⟨w12, w12'⟩⟩ := zwo_f hw
  obtain ⟨z1, z2, z3, z4, z5, z6⟩ := zwo_k hw
  have hw5 : 51 ≤ w := by rcases hw with rfl | rfl <;> omega
  unfold pWc at Ke Ko
  refine zC_at ok_WR_clause ck_WR_clause rfl rfl (sg_WR_clause_0 ?_)
  refine ⟨by first | decide | omega, ?_⟩
  try (any_goals (exfalso; first | omega | exact absurd trivial (by assumption)))
  refine c_WR_sign ht hX hp h0 h1 (fun v1 s1 s2 => ?_)
  have hX1 : TP v1 X := TP_fr (fun a r => s1 a (by omega)) hX
  have hD1 : DR v1 w D := DR_fr (fun b r1 r2 => s1 b (by omega)) hD
  have hD1' := hD1
  obtain ⟨k1, k2, k3, k4, k5, k6⟩ := hD1
  have hFw : ∀ {v' : zH}, Fw w v1 v' → Fw w v v' := fun f b r1 r2 => (f b r1 r2).trans (s1 b r1)
  obtain ⟨d1, d2, d3, d4, d5⟩ := id hd
  have lt : ∀ {v' : zH}, v' (w + 7) = v1 (w + 7) → LT v' w (dR D) (dW D) 0 (dE D) := fun e => by
    unfold LT
    rw [e]
    exact k6
  by_cases c1 : pC X p = 115
  · rw [if_pos c1] at Ke Ko
    have hlt := pC_lt (X := X) (p := p) (by omega)
    refine ⟨fun q1 => ⟨by first | decide | omega, ?_⟩, fun q2 => ⟨by first | decide | omega, ?_⟩, fun q3 => ⟨by first | decide | omega, ?_⟩, fun q4 => ⟨by first | decide | omega, by first | decide | omega, ?_⟩, fun q5 => ⟨by first | decide | omega, by first | decide | omega, ?_⟩, fun q6 => ⟨by first | decide | omega, ?_⟩, fun q7 => ⟨by first | decide | omega, ?_⟩, fun q8 => ⟨by first | decide | omega, ?_⟩, fun q9 => ⟨by first | decide | omega, by first | decide | omega, ?_⟩, fun q10 => ⟨by first | decide | omega, ?_⟩⟩
    try (any_goals (exfalso; first | omega | exact absurd trivial (by assumption)))
    refine c_WR_items (X := X) (o := w + 1) (n := dS D) (p := p) (g := dT D) ht z1 hX1 (by rw [z4]; exact d1.1) (by rw [z4]; exact k1) s2 h0 hlt (fun e v' n1 n2 n3 => ?_) (fun q g' v' n1 n2 n3 n4 => ?_)
    · rw [z4] at n1
      rw [n1] at Ke
      refine ⟨by first | decide | omega, ?_⟩
      exact Ke e v' rfl (hFw (fun b r1 r2 => n2 b r1 (by omega) (by omega))) n3
    · rw [z4] at n1 n4
      rw [n1] at Ko
      refine ⟨by first | decide | omega, ?_⟩
      refine Ko q _ v' rfl (hFw (fun b r1 r2 => n2 b r1 (by omega) (by omega))) n3 ⟨n4, KP_fr (n2 _ (by omega) (by omega) (by omega)) (n2 _ (by omega) (by omega) (by omega)) k2, KP_fr (n2 _ (by omega) (by omega) (by omega)) (n2 _ (by omega) (by omega) (by omega)) k3, (congrFun (n2 w (by omega) (by omega) (by omega)) 9).trans k4, fun r r1 r2 => (congrFun (n2 (w + 8) (by omega) (by omega) (by omega)) r).trans (k5 r r1 r2), lt (n2 _ (by omega) (by omega) (by omega))⟩
  rw [if_neg c1] at Ke Ko
  by_cases c2 : pC X p = 111
  · rw [if_pos c2] at Ke Ko
    have hlt := pC_lt (X := X) (p := p) (by omega)
    refine ⟨fun q1 => ⟨by first | decide | omega, ?_⟩, fun q2 => ⟨by first | decide | omega, ?_⟩, fun q3 => ⟨by first | decide | omega, ?_⟩, fun q4 => ⟨by first | decide | omega, by first | decide | omega, ?_⟩, fun q5 => ⟨by first | decide | omega, by first | decide | omega, ?_⟩, fun q6 => ⟨by first | decide | omega, ?_⟩, fun q7 => ⟨by first | decide | omega, ?_⟩, fun q8 => ⟨by first | decide | omega, ?_⟩, fun q9 => ⟨by first | decide | omega, by first | decide | omega, ?_⟩, fun q10 => ⟨by first | decide | omega, ?_⟩⟩
    try (any_goals (exfalso; first | omega | exact absurd trivial (by assumption)))
    refine c_WR_items (X := X) (o := w + 3) (n := dO D) (p := p) (g := dV D) ht z2 hX1 (by rw [z5]; exact d2.1) (by rw [z5]; exact k2) s2 h0 hlt (fun e v' n1 n2 n3 => ?_) (fun q g' v' n1 n2 n3 n4 => ?_)
    · rw [z5] at n1
      rw [n1] at Ke
      refine ⟨by first | decide | omega, ?_⟩
      exact Ke e v' rfl (hFw (fun b r1 r2 => n2 b r1 (by omega) (by omega))) n3
    · rw [z5] at n1 n4
      rw [n1] at Ko
      refine ⟨by first | decide | omega, ?_⟩
      refine Ko q _ v' rfl (hFw (fun b r1 r2 => n2 b r1 (by omega) (by omega))) n3 ⟨KP_fr (n2 _ (by omega) (by omega) (by omega)) (n2 _ (by omega) (by omega) (by omega)) k1, n4, KP_fr (n2 _ (by omega) (by omega) (by omega)) (n2 _ (by omega) (by omega) (by omega)) k3, (congrFun (n2 w (by omega) (by omega) (by omega)) 9).trans k4, fun r r1 r2 => (congrFun (n2 (w + 8) (by omega) (by omega) (by omega)) r).trans (k5 r r1 r2), lt (n2 _ (by omega) (by omega) (by omega))⟩
  rw [if_neg c2] at Ke Ko
  by_cases c3 : pC X p = 110
  · rw [if_pos c3] at Ke Ko
    have hlt := pC_lt (X := X) (p := p) (by omega)
    refine ⟨fun q1 => ⟨by first | decide | omega, ?_⟩, fun q2 => ⟨by first | decide | omega, ?_⟩, fun q3 => ⟨by first | decide | omega, ?_⟩, fun q4 => ⟨by first | decide | omega, by first | decide | omega, ?_⟩, fun q5 => ⟨by first | decide | omega, by first | decide | omega, ?_⟩, fun q6 => ⟨by first | decide | omega, ?_⟩, fun q7 => ⟨by first | decide | omega, ?_⟩, fun q8 => ⟨by first | decide | omega, ?_⟩, fun q9 => ⟨by first | decide | omega, by first | decide | omega, ?_⟩, fun q10 => ⟨by first | decide | omega, ?_⟩⟩
    try (any_goals (exfalso; first | omega | exact absurd trivial (by assumption)))
    refine c_WR_items (X := X) (o := w + 5) (n := dZ D) (p := p) (g := dL D) ht z3 hX1 (by rw [z6]; exact d3.1) (by rw [z6]; exact k3) s2 h0 hlt (fun e v' n1 n2 n3 => ?_) (fun q g' v' n1 n2 n3 n4 => ?_)
    · rw [z6] at n1
      rw [n1] at Ke
      refine ⟨by first | decide | omega, ?_⟩
      exact Ke e v' rfl (hFw (fun b r1 r2 => n2 b r1 (by omega) (by omega))) n3
    · rw [z6] at n1 n4
      rw [n1] at Ko
      refine ⟨by first | decide | omega, ?_⟩
      refine Ko q _ v' rfl (hFw (fun b r1 r2 => n2 b r1 (by omega) (by omega))) n3 ⟨KP_fr (n2 _ (by omega) (by omega) (by omega)) (n2 _ (by omega) (by omega) (by omega)) k1, KP_fr (n2 _ (by omega) (by omega) (by omega)) (n2 _ (by omega) (by omega) (by omega)) k2, n4, (congrFun (n2 w (by omega) (by omega) (by omega)) 9).trans k4, fun r r1 r2 => (congrFun (n2 (w + 8) (by omega) (by omega) (by omega)) r).trans (k5 r r1 r2), lt (n2 _ (by omega) (by omega) (by omega))⟩
  rw [if_neg c3] at Ke Ko
  by_cases c4 : pC X p = 108
  · rw [if_pos c4] at Ke Ko
    have hlt := pC_lt (X := X) (p := p) (by omega)
    refine ⟨fun q1 => ⟨by first | decide | omega, ?_⟩, fun q2 => ⟨by first | decide | omega, ?_⟩, fun q3 => ⟨by first | decide | omega, ?_⟩, fun q4 => ⟨by first | decide | omega, by first | decide | omega, ?_⟩, fun q5 => ⟨by first | decide | omega, by first | decide | omega, ?_⟩, fun q6 => ⟨by first | decide | omega, ?_⟩, fun q7 => ⟨by first | decide | omega, ?_⟩, fun q8 => ⟨by first | decide | omega, ?_⟩, fun q9 => ⟨by first | decide | omega, by first | decide | omega, ?_⟩, fun q10 => ⟨by first | decide | omega, ?_⟩⟩
    try (any_goals (exfalso; first | omega | exact absurd trivial (by assumption)))
    refine c_WR_row ht hw hX1 hD1' hd s2 h0 hlt (fun e => ?_) (fun e e1 v' n1 n2 n3 => ?_) (fun e q n g v' n1 n2 n3 n4 => ?_)
    · rw [if_pos e] at Ke
      refine ⟨by first | decide | omega, ?_⟩
      exact Ke _ v1 rfl (hFw Fw_rf) s2
    · rw [if_neg e, n1] at Ke
      refine ⟨by first | decide | omega, ?_⟩
      exact Ke _ v' rfl (hFw n2) n3
    · rw [if_neg e, n1] at Ko
      refine ⟨by first | decide | omega, ?_⟩
      exact Ko _ _ v' rfl (hFw n2) n3 n4
  rw [if_neg c4] at Ke Ko
  refine ⟨fun q1 => ⟨by first | decide | omega, ?_⟩, fun q2 => ⟨by first | decide | omega, ?_⟩, fun q3 => ⟨by first | decide | omega, ?_⟩, fun q4 => ⟨by first | decide | omega, by first | decide | omega, ?_⟩, fun q5 => ⟨by first | decide | omega, by first | decide | omega, ?_⟩, fun q6 => ⟨by first | decide | omega, ?_⟩, fun q7 => ⟨by first | decide | omega, ?_⟩, fun q8 => ⟨by first | decide | omega, ?_⟩, fun q9 => ⟨by first | decide | omega, by first | decide | omega, ?_⟩, fun q10 => ⟨by first | decide | omega, ?_⟩⟩
  try (any_goals (exfalso; first | omega | exact absurd trivial (by assumption)))
  all_goals exact Ke _ v1 rfl (hFw Fw_rf) s2
end
