/-! THE REFERENCE: a law's clauses read, a law read -/
def FC (n m c : Int) (v v' : zH) : Prop := (∀ b : Int, (b < 77 ∨ b = 78 ∨ 85 < b) → v' b = v b) ∧ (∀ k : Int, k ≠ 3 → k ≠ 4 → k ≠ 5 → v' 77 k = v 77 k) ∧ (∀ j : Int, j ≠ n → v' 81 j = v 81 j ∧ v' 82 j = v 82 j) ∧ (∀ j : Int, ¬ (340 * n + m ≤ j ∧ j < 340 * n + 340) → v' 79 j = v 79 j ∧ v' 80 j = v 80 j) ∧ (∀ j : Int, j ≠ 90 * n + c → v' 83 j = v 83 j ∧ v' 84 j = v 84 j ∧ v' 85 j = v 85 j)
theorem FC_rf {n m c : Int} {v : zH} : FC n m c v v := ⟨fun _ _ => rfl, fun _ _ _ _ => rfl, fun _ _ => ⟨rfl, rfl⟩, fun _ _ => ⟨rfl, rfl⟩, fun _ _ => ⟨rfl, rfl, rfl⟩⟩
theorem FC_tr {n m m' c : Int} {u v w : zH} (h : FC n m c u v) (g : FC n m' c v w) (hm : m ≤ m') : FC n m c u w :=
  ⟨fun b a => (g.1 b a).trans (h.1 b a), fun k a1 a2 a3 => (g.2.1 k a1 a2 a3).trans (h.2.1 k a1 a2 a3), fun j a => ⟨(g.2.2.1 j a).1.trans (h.2.2.1 j a).1, (g.2.2.1 j a).2.trans (h.2.2.1 j a).2⟩, fun j a => ⟨((g.2.2.2.1 j (by omega)).1).trans (h.2.2.2.1 j a).1, ((g.2.2.2.1 j (by omega)).2).trans (h.2.2.2.1 j a).2⟩, fun j a => ⟨(g.2.2.2.2 j a).1.trans (h.2.2.2.2 j a).1, (g.2.2.2.2 j a).2.1.trans (h.2.2.2.2 j a).2.1, (g.2.2.2.2 j a).2.2.trans (h.2.2.2.2 j a).2.2⟩⟩
theorem FC_M {n m c : Int} {v v' : zH} (h : FM n m v v') : FC n m c v v' := ⟨fun b a => h.1 b (by omega) (by omega) (by omega) (by omega), h.2.1, fun j a => ⟨h.2.2.1 j a, by rw [h.1 82 (by omega) (by omega) (by omega) (by omega)]⟩, h.2.2.2, fun j a => ⟨by rw [h.1 83 (by omega) (by omega) (by omega) (by omega)], by rw [h.1 84 (by omega) (by omega) (by omega) (by omega)], by rw [h.1 85 (by omega) (by omega) (by omega) (by omega)]⟩⟩
theorem FC_7 {n m c : Int} {v v' : zH} (h : F7 v v') : FC n m c v v' := FC_M (FM_7 h)
theorem FC_82 {n m c x : Int} {v : zH} : FC n m c v (zupd v 82 n x) := ⟨fun b a => zup_a (by omega), fun k _ _ _ => by rw [zup_a (by omega)], fun j a => ⟨by rw [zup_a (by omega)], zup_j a⟩, fun j _ => by rw [zup_a (by omega), zup_a (by omega)]; exact ⟨rfl, rfl⟩, fun j a => by rw [zup_a (by omega), zup_a (by omega), zup_a (by omega)]; exact ⟨rfl, rfl, rfl⟩⟩
theorem FC_8 {n m c x b : Int} {v : zH} (hb : b = 83 ∨ b = 84 ∨ b = 85) : FC n m c v (zupd v b (90 * n + c) x) := ⟨fun b' a => zup_a (by omega), fun k _ _ _ => by rw [zup_a (by omega)], fun j a => ⟨by rw [zup_a (by omega)], by rw [zup_a (by omega)]⟩, fun j _ => by rw [zup_a (by omega), zup_a (by omega)]; exact ⟨rfl, rfl⟩, fun j a => by
  have h : ∀ y, (zupd v b (90 * n + c) x) y j = v y j := fun y => by
    by_cases e : y = b
    · rw [e]; exact zup_j a
    · rw [zup_a e]
  exact ⟨h 83, h 84, h 85⟩⟩
theorem FC_3 {n m c y z : Int} {v : zH} : FC n m c v (zupd (zupd v 85 (90 * n + c) y) 82 n z) := FC_tr (m' := m) (FC_8 (m := m) (by omega)) (FC_82 (m := m)) (Int.le_refl _)
theorem FC_4 {n m c x y z : Int} {v : zH} : FC n m c v (zupd (zupd (zupd v 84 (90 * n + c) x) 85 (90 * n + c) y) 82 n z) := FC_tr (m' := m) (FC_8 (m := m) (by omega)) FC_3 (Int.le_refl _)
theorem TM_C {n m c : Int} {v v' : zH} {X : zTp} (h : FC n m c v v') (k : TM v X) : TM v' X := TM_fr (h.2.1 2 (by omega) (by omega) (by omega)) (h.1 78 (by omega)) k
theorem MR_8 {v : zH} {b x y o : Int} {s : List Int} (hb : b = 82 ∨ b = 83 ∨ b = 84 ∨ b = 85) (k : MR v o s) : MR (zupd v b x y) o s := MR_fr s o (fun j _ _ => by rw [zup_a (by omega), zup_a (by omega)]; exact ⟨rfl, rfl⟩) k
theorem Mo_8 {v : zH} {b x y n q k m : Int} (hb : b = 82 ∨ b = 83 ∨ b = 84 ∨ b = 85) (h : Mo v n q k m) : Mo (zupd v b x y) n q k m := ⟨by rw [zup_a (by omega)]; exact h.1, by rw [zup_a (by omega)]; exact h.2.1, by rw [zup_a (by omega)]; exact h.2.2.1, by rw [zup_a (by omega)]; exact h.2.2.2⟩
theorem pStar_len {X : zTp} {sep : Int → Bool} {item : zPs} : ∀ {f : Nat} (p : Int) (acc : List Int) {q : Int} {t : List Int}, pStar X sep item f p acc = .ok (q, t) → acc.length ≤ t.length
  | 0, p, acc, q, t, h => by cases h
  | f + 1, p, acc, q, t, h => by
    unfold pStar at h
    split at h
    · split at h
      · cases h
      · have := pStar_len _ _ h
        simp at this
        omega
    · cases h
      exact Nat.le_refl _
section
variable {l : Launch} {G : zG} {d : Nat} {v : zH} {Q : Int → zH → Prop}
theorem cl_134 {n c : Int} {QX : Nat → zH → Prop} (hn : 0 ≤ n ∧ n ≤ 4) (hc : 0 ≤ c ∧ c ≤ 88) (h14 : v 77 14 = n) (h82 : v 82 n = c) (K : Q 0 (zupd (zupd v 85 (90 * n + c) (v 81 n)) 82 n (c + 1))) : zJ l G 1 (d + 40) h_M_clause k_M_clause 115 Q QX 134 [(2, 77), (0, 90 * n + c), (3, 0)] [] v 115 := by
  refine zgo ck_M_clause 300 134 _ _ _ _ rfl (sg_M_clause_134 ?_)
  try simp (disch := omega) only [zup_e, zup_ak, zup_j, Int.zero_add, Int.reduceAdd, mz78, mz79, mz80, mz81, mz82, mz83, mz84, mz85, mz86, mz87, mz88, mz89, mz90, mz91, mz92, mz93, mz94, mz95, mz96, mz97, mz98, mz99, mz100, mz101, mz102, mz103, mz104, mz105, mz106, mz107, mz108, mz109, mz110, mz111, mz112, mz113, h14, h82]
  refine ⟨by first | decide | omega, by first | decide | omega, by first | decide | omega, by first | decide | omega, ⟨by first | decide | omega, by first | decide | omega⟩, by first | decide | omega, ⟨by first | decide | omega, by first | decide | omega⟩, by first | decide | omega, by first | decide | omega, by first | decide | omega, ⟨by first | decide | omega, by first | decide | omega⟩, ⟨by first | decide | omega, by first | decide | omega⟩, by first | decide | omega, ⟨by first | decide | omega, by first | decide | omega⟩, ?_⟩
  exact K
theorem cl_96e {n c e x : Int} {QX : Nat → zH → Prop} (hn : 0 ≤ n ∧ n ≤ 4) (hc : 0 ≤ c ∧ c ≤ 88) (h14 : v 77 14 = n) (h82 : v 82 n = c) (hw : v 77 4 = e) (he : e ≠ -1) (K : ∀ v' : zH, (∀ m, FC n m c v v') → v' 77 4 = e → Q 0 v') : zJ l G 1 (d + 40) h_M_clause k_M_clause 115 Q QX 96 [(2, 77), (0, 90 * n + c), (0, x)] [] v 115 := by
  have F : ∀ y z, (∀ m, FC n m c v (zupd (zupd (zupd v 84 (90 * n + c) y) 85 (90 * n + c) z) 82 n (c + 1))) := fun y z m => FC_4
  have go : zJ l G 1 (d + 40) h_M_clause k_M_clause 115 Q QX 134 [(2, 77), (0, 90 * n + c), (3, 0)] [] (zupd v 84 (90 * n + c) (v 83 (90 * n + c))) 115 := by
    refine cl_134 hn hc (by rw [zup_a (by omega)]; exact h14) (by rw [zup_a (by omega)]; exact h82) (K _ (F _ _) ?_)
    rw [zup_a (by omega), zup_a (by omega), zup_a (by omega)]
    exact hw
  by_cases hx : x = 0
  · refine zgo ck_M_clause 300 96 _ _ _ _ rfl (sg_M_clause_96 ?_)
    try simp (disch := omega) only [zup_e, zup_ak, zup_j, Int.zero_add, Int.reduceAdd, mz78, mz79, mz80, mz81, mz82, mz83, mz84, mz85, mz86, mz87, mz88, mz89, mz90, mz91, mz92, mz93, mz94, mz95, mz96, mz97, mz98, mz99, mz100, mz101, mz102, mz103, mz104, mz105, mz106, mz107, mz108, mz109, mz110, mz111, mz112, mz113, hw]
    refine ⟨by first | decide | omega, by first | decide | omega, by first | decide | omega, ⟨by first | decide | omega, by first | decide | omega⟩, by first | decide | omega, ⟨by first | decide | omega, by first | decide | omega⟩, ⟨fun q1 => ?_, fun q2 => ⟨by first | decide | omega, ⟨fun q3 => ?_, fun q4 => ⟨by first | decide | omega, ?_⟩⟩⟩⟩⟩
    try (any_goals (exfalso; first | omega | exact absurd trivial (by assumption)))
    exact go
  · refine zgo ck_M_clause 300 96 _ _ _ _ rfl (sg_M_clause_96 ?_)
    try simp (disch := omega) only [zup_e, zup_ak, zup_j, Int.zero_add, Int.reduceAdd, mz78, mz79, mz80, mz81, mz82, mz83, mz84, mz85, mz86, mz87, mz88, mz89, mz90, mz91, mz92, mz93, mz94, mz95, mz96, mz97, mz98, mz99, mz100, mz101, mz102, mz103, mz104, mz105, mz106, mz107, mz108, mz109, mz110, mz111, mz112, mz113, hw]
    refine ⟨by first | decide | omega, by first | decide | omega, by first | decide | omega, ⟨by first | decide | omega, by first | decide | omega⟩, by first | decide | omega, ⟨by first | decide | omega, by first | decide | omega⟩, ⟨fun q1 => ?_, fun q2 => ⟨by first | decide | omega, ⟨fun q3 => ?_, fun q4 => ⟨by first | decide | omega, ?_⟩⟩⟩⟩⟩
    try (any_goals (exfalso; first | omega | exact absurd trivial (by assumption)))
    exact go
/-- behind a condition -/
theorem cl_96q {X : zTp} {n c m q : Int} {t : List Int} {v0 : zH} {R : zPx zCl} {QX : Nat → zH → Prop} (ht : tOk X) (hn : 0 ≤ n ∧ n ≤ 4) (hc : 0 ≤ c ∧ c ≤ 88) (hX : TM v X) (h14 : v 77 14 = n) (h82 : v 82 n = c) (h83 : v 83 (90 * n + c) = m) (hM : Mo v n q 6 (m + t.length)) (hW : MR v (340 * n + m) t) (hm : 0 ≤ m) (h0 : 0 ≤ q) (h1 : q ≤ X.2) (hl : m + t.length ≤ q) (hF : FC n m c v0 v) (hR : R = pQu X q t)
    (Ke : ∀ (e : Int) (v' : zH), R = .error e → FC n m c v0 v' → v' 77 4 = e → Q 0 v')
    (Ko : ∀ (q : Int) (a b : List Int) (v' : zH), R = .ok (q, (a, b)) → FC n m c v0 v' → Mo v' n q 6 (m + a.length + b.length) → MR v' (340 * n + m) (a ++ b) → v' 83 (90 * n + c) = m → v' 84 (90 * n + c) = m + a.length → v' 85 (90 * n + c) = m + a.length + b.length → v' 82 n = c + 1 → Q 0 v') :
    zJ l G 1 (d + 40) h_M_clause k_M_clause 115 Q QX 96 [(2, 77), (0, 90 * n + c), (0, 1)] [] v 115 := by
  have hn1 := ht.1
  have hb := pS_b (X := X) q
  unfold pQu at hR
  have hM0 := Mo_8 (b := 84) (x := 90 * n + c) (y := m) (by omega) hM
  have hF0 : FC n m c v0 (zupd v 84 (90 * n + c) m) := FC_tr hF (FC_8 (m := m) (by omega)) (by omega)
  refine zgo ck_M_clause 300 96 _ _ _ _ rfl (sg_M_clause_96 ?_)
  try simp (disch := omega) only [zup_e, zup_ak, zup_j, Int.zero_add, Int.reduceAdd, mz78, mz79, mz80, mz81, mz82, mz83, mz84, mz85, mz86, mz87, mz88, mz89, mz90, mz91, mz92, mz93, mz94, mz95, mz96, mz97, mz98, mz99, mz100, mz101, mz102, mz103, mz104, mz105, mz106, mz107, mz108, mz109, mz110, mz111, mz112, mz113, hM.2.1, h83]
  refine ⟨by first | decide | omega, by first | decide | omega, by first | decide | omega, ⟨by first | decide | omega, by first | decide | omega⟩, by first | decide | omega, ⟨by first | decide | omega, by first | decide | omega⟩, ⟨fun q1 => ?_, fun q2 => ⟨by first | decide | omega, ⟨fun q3 => ?_, fun q4 => ⟨by first | decide | omega, ?_⟩⟩⟩⟩⟩
  try (any_goals (exfalso; first | omega | exact absurd trivial (by assumption)))
  refine c_M_look ht (TM_C (FC_8 (n := n) (m := m) (c := c) (by omega)) hX) hM0.1 h0 h1 (fun v1 f1 f2 => ?_)
  have hM1 := Mo_A hM0 f1 f2
  have h141 : v1 77 14 = n := by rw [f1.2 14 (by omega), zup_a (by omega)]; exact h14
  have hX1 : TM v1 X := TM_A f1 (TM_C (FC_8 (n := n) (m := m) (c := c) (by omega)) hX)
  have hF1 : FC n m c v0 v1 := FC_tr hF0 (FC_7 (m := m) (F7_A f1)) (by omega)
  have hW1 : MR v1 (340 * n + m) t := MR_A (F7_A f1) (MR_8 (by omega) hW)
  by_cases cq : pC X q = 63
  rotate_left
  · rw [if_neg cq] at hR
    refine ⟨fun q1 => ⟨by first | decide | omega, ⟨by first | decide | omega, by first | decide | omega⟩, by first | decide | omega, by first | decide | omega, by first | decide | omega, by first | decide | omega, by first | decide | omega, ⟨by first | decide | omega, by first | decide | omega⟩, by first | decide | omega, ⟨by first | decide | omega, by first | decide | omega⟩, by first | decide | omega, ?_⟩, fun q2 => ⟨by first | decide | omega, ?_⟩⟩
    try (any_goals (exfalso; first | omega | exact absurd trivial (by assumption)))
    refine c_M_bad hM1.2.1 ?_
    rw [f2]
    exact Ke _ _ hR (FC_tr hF1 (FC_7 (m := m) (F7_up (by omega))) (by omega)) zup_s
  rw [if_pos cq] at hR
  have hlt := pC_lt (X := X) (p := q) (by omega)
  have hgd := (pSumL_gd (X := X) (k := 6)) (pS X q + 1) (by omega) (by omega)
  show _
  simp (disch := omega) only [zup_j, zup_ak, f2, h141, hM1.2.2.2]
  refine ⟨fun q1 => ⟨by first | decide | omega, ⟨by first | decide | omega, by first | decide | omega⟩, by first | decide | omega, by first | decide | omega, by first | decide | omega, by first | decide | omega, by first | decide | omega, ⟨by first | decide | omega, by first | decide | omega⟩, by first | decide | omega, ⟨by first | decide | omega, by first | decide | omega⟩, by first | decide | omega, ?_⟩, fun q2 => ⟨by first | decide | omega, ?_⟩⟩
  try (any_goals (exfalso; first | omega | exact absurd trivial (by assumption)))
  have hx : FA v1 (zupd v1 77 3 (pS X q + 1)) := FA_up
  have hsum := c_M_sumK (l := l) (G := G) ht 6 (d + 15) (by omega)
  have hF2 : FC n m c v0 (zupd (zupd v1 77 3 (pS X q + 1)) 84 (90 * n + c) (m + t.length)) := FC_tr hF1 (FC_tr (FC_7 (m := m) (F7_A hx)) (FC_8 (m := m) (by omega)) (by omega)) (by omega)
  have hX2 : TM (zupd (zupd v1 77 3 (pS X q + 1)) 84 (90 * n + c) (m + t.length)) X := TM_C (FC_tr (FC_7 (n := n) (c := c) (m := m) (F7_A hx)) (FC_8 (m := m) (by omega)) (by omega)) hX1
  have h142 : (zupd (zupd v1 77 3 (pS X q + 1)) 84 (90 * n + c) (m + t.length)) 77 14 = n := by rw [zup_a (by omega), zup_j (by omega)]; exact h141
  have h822 : (zupd (zupd v1 77 3 (pS X q + 1)) 84 (90 * n + c) (m + t.length)) 82 n = c := by rw [zup_a (by omega), zup_a (by omega), f1.1 82 (by omega), zup_a (by omega)]; exact h82
  have h832 : (zupd (zupd v1 77 3 (pS X q + 1)) 84 (90 * n + c) (m + t.length)) 83 (90 * n + c) = m := by rw [zup_a (by omega), zup_a (by omega), f1.1 83 (by omega), zup_a (by omega)]; exact h83
  have h842 : (zupd (zupd v1 77 3 (pS X q + 1)) 84 (90 * n + c) (m + t.length)) 84 (90 * n + c) = m + t.length := zup_s
  have hM2 := Mo_8 (b := 84) (x := 90 * n + c) (y := m + t.length) (by omega) (Mo_up (q' := pS X q + 1) hM1)
  have hW2 := MR_8 (b := 84) (x := 90 * n + c) (y := m + t.length) (by omega) (MR_A (F7_A hx) hW1)
  generalize zupd (zupd v1 77 3 (pS X q + 1)) 84 (90 * n + c) (m + t.length) = v2 at hF2 hX2 h142 h822 h832 h842 hM2 hW2
  refine hsum n (pS X q + 1) (m + t.length) _ _ hn hX2 h142 hM2 (by omega) (by omega) (by omega) (fun e v3 n1 n2 n3 => ?_) (fun r s v3 n1 n2 n3 n4 => ?_)
  · have he := hgd.1 e n1
    obtain ⟨a1, a2, a3, a4⟩ := n3
    simp only [n1] at hR
    have e82 : v3 82 n = c := by rw [n2.1 82 (by omega) (by omega) (by omega) (by omega)]; exact h822
    refine cl_134 hn hc (h14_M n2 h142) e82 (Ke e _ hR (FC_tr hF2 (FC_tr (FC_M (m := m + t.length) n2) (FC_3 (m := m + t.length)) (by omega)) (by omega)) ?_)
    rw [zup_a (by omega), zup_a (by omega)]
    exact a2
  · obtain ⟨g1, g2, g3, -⟩ := hgd.2 r s n1
    simp only [n1] at hR
    have e82 : v3 82 n = c := by rw [n2.1 82 (by omega) (by omega) (by omega) (by omega)]; exact h822
    refine cl_134 hn hc (h14_M n2 h142) e82 (Ko r t s _ hR (FC_tr hF2 (FC_tr (FC_M (m := m + t.length) n2) (FC_3 (m := m + t.length)) (by omega)) (by omega)) (Mo_8 (by omega) (Mo_8 (by omega) n3)) (MR_8 (by omega) (MR_8 (by omega) (MR_join hW2 n2 n4))) ?_ ?_ ?_ zup_s)
    · rw [zup_a (by omega), zup_a (by omega), n2.1 83 (by omega) (by omega) (by omega) (by omega)]; exact h832
    · rw [zup_a (by omega), zup_a (by omega), n2.1 84 (by omega) (by omega) (by omega) (by omega)]; exact h842
    · rw [zup_a (by omega), zup_s, n3.2.2.2]
theorem cl_37e {i e : Int} {QX : Nat → zH → Prop} (h3 : 0 ≤ v 77 3 ∧ v 77 3 ≤ 1000) (hw : v 77 4 = e) (he : e ≠ -1) (K : ∀ v' : zH, FA v v' → Q 0 v') : zJ l G 1 (d + 40) h_M_clause k_M_clause 115 Q QX 37 [(2, 77), (0, i), (3, 0)] [] v 115 := by
  refine zgo ck_M_clause 300 37 _ _ _ _ rfl (sg_M_clause_37 ?_)
  try simp (disch := omega) only [zup_e, zup_ak, zup_j, Int.zero_add, Int.reduceAdd, mz78, mz79, mz80, mz81, mz82, mz83, mz84, mz85, mz86, mz87, mz88, mz89, mz90, mz91, mz92, mz93, mz94, mz95, mz96, mz97, mz98, mz99, mz100, mz101, mz102, mz103, mz104, mz105, mz106, mz107, mz108, mz109, mz110, mz111, mz112, mz113, hw]
  refine ⟨by first | decide | omega, ⟨by first | decide | omega, by first | decide | omega⟩, by first | decide | omega, by first | decide | omega, ⟨fun q1 => ⟨by first | decide | omega, by first | decide | omega, by first | decide | omega, by first | decide | omega, ⟨by first | decide | omega, by first | decide | omega⟩, by first | decide | omega, ⟨by first | decide | omega, by first | decide | omega⟩, by first | decide | omega, ?_⟩, fun q2 => ?_⟩⟩
  try (any_goals (exfalso; first | omega | exact absurd trivial (by assumption)))
  exact K _ FA_up
theorem cl_21e {i e : Int} {QX : Nat → zH → Prop} (h3 : 0 ≤ v 77 3 ∧ v 77 3 ≤ 900) (hw : v 77 4 = e) (he : e ≠ -1) (K : ∀ v' : zH, FA v v' → Q 0 v') : zJ l G 1 (d + 40) h_M_clause k_M_clause 115 Q QX 21 [(2, 77), (0, i), (3, 0)] [] v 115 := by
  refine zgo ck_M_clause 300 21 _ _ _ _ rfl (sg_M_clause_21 ?_)
  try simp (disch := omega) only [zup_e, zup_ak, zup_j, Int.zero_add, Int.reduceAdd, mz78, mz79, mz80, mz81, mz82, mz83, mz84, mz85, mz86, mz87, mz88, mz89, mz90, mz91, mz92, mz93, mz94, mz95, mz96, mz97, mz98, mz99, mz100, mz101, mz102, mz103, mz104, mz105, mz106, mz107, mz108, mz109, mz110, mz111, mz112, mz113, hw]
  refine ⟨by first | decide | omega, ⟨by first | decide | omega, by first | decide | omega⟩, by first | decide | omega, by first | decide | omega, ⟨fun q1 => ?_, fun q2 => ⟨by first | decide | omega, ?_⟩⟩⟩
  try (any_goals (exfalso; first | omega | exact absurd trivial (by assumption)))
  exact cl_37e (by rw [zup_s]; omega) (by rw [zup_j (by omega)]; exact hw) he (fun v' f => K v' (FA_tr FA_up f))
theorem cl_68c {X : zTp} {n c m a : Int} {v0 : zH} {R : zPx zCl} {QX : Nat → zH → Prop} (ht : tOk X) (hn : 0 ≤ n ∧ n ≤ 4) (hc : 0 ≤ c ∧ c ≤ 88) (hX : TM v X) (h14 : v 77 14 = n) (h82 : v 82 n = c) (h83 : v 83 (90 * n + c) = m) (hM : Mo v n (pS X a) 6 m) (hm : 0 ≤ m) (h0 : m + 2 ≤ a) (h1 : a ≤ X.2) (hF : FC n m c v0 v)
    (hR : R = (match pCond X (pUc X 6) (pS X a) with
      | .error e => .error e
      | .ok (q, t) => pQu X q t))
    (Ke : ∀ (e : Int) (v' : zH), R = .error e → FC n m c v0 v' → v' 77 4 = e → Q 0 v')
    (Ko : ∀ (q : Int) (a b : List Int) (v' : zH), R = .ok (q, (a, b)) → FC n m c v0 v' → Mo v' n q 6 (m + a.length + b.length) → MR v' (340 * n + m) (a ++ b) → v' 83 (90 * n + c) = m → v' 84 (90 * n + c) = m + a.length → v' 85 (90 * n + c) = m + a.length + b.length → v' 82 n = c + 1 → Q 0 v') : zJ l G 1 (d + 40) h_M_clause k_M_clause 115 Q QX 68 [(2, 77), (0, 90 * n + c), (3, 0)] [(0, 1)] v 115 := by
  have hn1 := ht.1
  have hb := pS_b (X := X) a
  have hgd := (pCond_gd (pUc_gd (X := X) 6)) (pS X a) (by omega) (by omega)
  have hco := (c_M_deep (l := l) (G := G) ht 6 (d + 4) (by omega)).2.2.2
  refine zgo ck_M_clause 300 68 _ _ _ _ rfl (sg_M_clause_68 ?_)
  try simp (disch := omega) only [zup_e, zup_ak, zup_j, Int.zero_add, Int.reduceAdd, mz78, mz79, mz80, mz81, mz82, mz83, mz84, mz85, mz86, mz87, mz88, mz89, mz90, mz91, mz92, mz93, mz94, mz95, mz96, mz97, mz98, mz99, mz100, mz101, mz102, mz103, mz104, mz105, mz106, mz107, mz108, mz109, mz110, mz111, mz112, mz113]
  refine ⟨fun q1 => ⟨by first | decide | omega, ?_⟩, fun q2 => ⟨by first | decide | omega, ?_⟩⟩
  try (any_goals (exfalso; first | omega | exact absurd trivial (by assumption)))
  refine hco n (pS X a) m _ _ hn hX h14 hM (by omega) (by omega) (by omega) (fun e v1 n1 n2 n3 => ?_) (fun q t v1 n1 n2 n3 n4 => ?_)
  · have he := hgd.1 e n1
    obtain ⟨a1, a2, a3, a4⟩ := n3
    simp only [n1] at hR
    exact cl_96e hn hc (h14_M n2 h14) (by rw [n2.1 82 (by omega) (by omega) (by omega) (by omega)]; exact h82) a2 (by omega) (fun v' f1 f2 => Ke e v' hR (FC_tr hF (FC_tr (FC_M n2) (f1 m) (by omega)) (by omega)) f2)
  · obtain ⟨g1, g2, g3, -⟩ := hgd.2 q t n1
    simp only [n1] at hR
    exact cl_96q ht hn hc (TM_M n2 hX) (h14_M n2 h14) (by rw [n2.1 82 (by omega) (by omega) (by omega) (by omega)]; exact h82) (by rw [n2.1 83 (by omega) (by omega) (by omega) (by omega)]; exact h83) n3 n4 hm (by omega) g2 (by omega) (FC_tr hF (FC_M n2) (by omega)) hR Ke Ko
theorem cl_68s {X : zTp} {n c m a : Int} {v0 : zH} {R : zPx zCl} {QX : Nat → zH → Prop} (ht : tOk X) (hn : 0 ≤ n ∧ n ≤ 4) (hc : 0 ≤ c ∧ c ≤ 88) (hX : TM v X) (h14 : v 77 14 = n) (h82 : v 82 n = c) (h83 : v 83 (90 * n + c) = m) (hM : Mo v n (pS X a) 6 m) (hm : 0 ≤ m) (h0 : m + 2 ≤ a) (h1 : a ≤ X.2) (hF : FC n m c v0 v)
    (hR : R = (match pSumL X 6 (pS X a) with
    | .error e => .error e
    | .ok (q, t) => if isCmp (pC X q) then (match pCmp X (pSumL X 6) q t with
      | .error e => .error e
      | .ok (r, t1) => match pTl X isAnd (pUc X 6) r t1 with
        | .error e => .error e
        | .ok (r2, t2) => match pTl X isOr (pTruth X (pUc X 6)) r2 t2 with
          | .error e => .error e
          | .ok (r3, t3) => pQu X r3 t3) else .ok (pS X q, ([], t))))
    (Ke : ∀ (e : Int) (v' : zH), R = .error e → FC n m c v0 v' → v' 77 4 = e → Q 0 v')
    (Ko : ∀ (q : Int) (a b : List Int) (v' : zH), R = .ok (q, (a, b)) → FC n m c v0 v' → Mo v' n q 6 (m + a.length + b.length) → MR v' (340 * n + m) (a ++ b) → v' 83 (90 * n + c) = m → v' 84 (90 * n + c) = m + a.length → v' 85 (90 * n + c) = m + a.length + b.length → v' 82 n = c + 1 → Q 0 v') : zJ l G 1 (d + 40) h_M_clause k_M_clause 115 Q QX 68 [(2, 77), (0, 90 * n + c), (3, 0)] [(0, 0)] v 115 := by
  have hn1 := ht.1
  have hb := pS_b (X := X) a
  have hgd := (pSumL_gd (X := X) (k := 6)) (pS X a) (by omega) (by omega)
  have hsum := c_M_sumK (l := l) (G := G) ht 6 (d + 15) (by omega)
  have hcmp := c_M_compare (l := l) (G := G) (D := d + 35) (by omega) ht (c_M_sumK (l := l) (G := G) ht 6 (d + 14) (by omega))
  have hand := (c_M_deep (l := l) (G := G) ht 6 (d + 6) (by omega)).2.1
  have hor := (c_M_deep (l := l) (G := G) ht 6 (d + 5) (by omega)).2.2.1
  refine zgo ck_M_clause 300 68 _ _ _ _ rfl (sg_M_clause_68 ?_)
  try simp (disch := omega) only [zup_e, zup_ak, zup_j, Int.zero_add, Int.reduceAdd, mz78, mz79, mz80, mz81, mz82, mz83, mz84, mz85, mz86, mz87, mz88, mz89, mz90, mz91, mz92, mz93, mz94, mz95, mz96, mz97, mz98, mz99, mz100, mz101, mz102, mz103, mz104, mz105, mz106, mz107, mz108, mz109, mz110, mz111, mz112, mz113]
  refine ⟨fun q1 => ⟨by first | decide | omega, ?_⟩, fun q2 => ⟨by first | decide | omega, ?_⟩⟩
  try (any_goals (exfalso; first | omega | exact absurd trivial (by assumption)))
  refine hsum n (pS X a) m _ _ hn hX h14 hM (by omega) (by omega) (by omega) (fun e v1 n1 n2 n3 => ?_) (fun q t v1 n1 n2 n3 n4 => ?_)
  · have he := hgd.1 e n1
    obtain ⟨a1, a2, a3, a4⟩ := n3
    simp only [n1] at hR
    try simp (disch := omega) only [zup_e, zup_ak, zup_j, Int.zero_add, Int.reduceAdd, mz78, mz79, mz80, mz81, mz82, mz83, mz84, mz85, mz86, mz87, mz88, mz89, mz90, mz91, mz92, mz93, mz94, mz95, mz96, mz97, mz98, mz99, mz100, mz101, mz102, mz103, mz104, mz105, mz106, mz107, mz108, mz109, mz110, mz111, mz112, mz113, a2]
    refine ⟨by first | decide | omega, ⟨fun q1 => ⟨fun q2 => ?_, fun q3 => ⟨by first | decide | omega, ?_⟩⟩, fun q4 => ⟨by first | decide | omega, ?_⟩⟩⟩
    try (any_goals (exfalso; first | omega | exact absurd trivial (by assumption)))
    exact cl_96e hn hc (h14_M n2 h14) (by rw [n2.1 82 (by omega) (by omega) (by omega) (by omega)]; exact h82) a2 (by omega) (fun v' f1 f2 => Ke e v' hR (FC_tr hF (FC_tr (FC_M n2) (f1 m) (by omega)) (by omega)) f2)
  obtain ⟨g1, g2, g3, g4⟩ := hgd.2 q t n1
  have hnn := tRn_nn (g4 [] (by simp; omega))
  have htl : 1 ≤ t.length := by
    cases t with
    | nil => exact absurd rfl hnn
    | cons x y => simp
  have hbq := pS_b (X := X) q
  simp only [n1] at hR
  have hX1 := TM_M n2 hX
  have h141 := h14_M n2 h14
  have h821 : v1 82 n = c := by rw [n2.1 82 (by omega) (by omega) (by omega) (by omega)]; exact h82
  have h831 : v1 83 (90 * n + c) = m := by rw [n2.1 83 (by omega) (by omega) (by omega) (by omega)]; exact h83
  have hF1 : FC n m c v0 v1 := FC_tr hF (FC_M n2) (by omega)
  try simp (disch := omega) only [zup_e, zup_ak, zup_j, Int.zero_add, Int.reduceAdd, mz78, mz79, mz80, mz81, mz82, mz83, mz84, mz85, mz86, mz87, mz88, mz89, mz90, mz91, mz92, mz93, mz94, mz95, mz96, mz97, mz98, mz99, mz100, mz101, mz102, mz103, mz104, mz105, mz106, mz107, mz108, mz109, mz110, mz111, mz112, mz113, n3.2.1]
  refine ⟨by first | decide | omega, ⟨fun q1 => ⟨fun q2 => ?_, fun q3 => ⟨by first | decide | omega, ?_⟩⟩, fun q4 => ⟨by first | decide | omega, ?_⟩⟩⟩
  try (any_goals (exfalso; first | omega | exact absurd trivial (by assumption)))
  refine c_M_look ht hX1 n3.1 (by omega) g2 (fun v2 f1 f2 => ?_)
  have hM2 := Mo_A n3 f1 f2
  have hX2 := TM_A f1 hX1
  have h142 := h14_7 (F7_A f1) h141
  have h822 : v2 82 n = c := by rw [f1.1 82 (by omega)]; exact h821
  have h832 : v2 83 (90 * n + c) = m := by rw [f1.1 83 (by omega)]; exact h831
  have hF2 : FC n m c v0 v2 := FC_tr hF1 (FC_7 (m := m) (F7_A f1)) (by omega)
  have hW2 := MR_A (F7_A f1) n4
  refine c_M_isSign ?_
  by_cases cc : isCmp (pC X q) = true
  rotate_left
  · rw [if_neg cc] at hR
    rw [if_neg cc]
    refine ⟨fun q1 => ⟨fun q2 => ?_, fun q3 => ⟨by first | decide | omega, ?_⟩⟩, fun q4 => ⟨fun q5 => ?_, fun q6 => ⟨by first | decide | omega, ?_⟩⟩⟩
    try (any_goals (exfalso; first | omega | exact absurd trivial (by assumption)))
    have F : FC n m c v0 (zupd (zupd (zupd v2 84 (90 * n + c) m) 85 (90 * n + c) (m + t.length)) 82 n (c + 1)) := FC_tr hF2 (FC_4 (m := m)) (by omega)
    refine zgo ck_M_clause 300 96 _ _ _ _ rfl (sg_M_clause_96 ?_)
    try simp (disch := omega) only [zup_e, zup_ak, zup_j, Int.zero_add, Int.reduceAdd, mz78, mz79, mz80, mz81, mz82, mz83, mz84, mz85, mz86, mz87, mz88, mz89, mz90, mz91, mz92, mz93, mz94, mz95, mz96, mz97, mz98, mz99, mz100, mz101, mz102, mz103, mz104, mz105, mz106, mz107, mz108, mz109, mz110, mz111, mz112, mz113, h832]
    refine ⟨by first | decide | omega, by first | decide | omega, by first | decide | omega, ⟨by first | decide | omega, by first | decide | omega⟩, by first | decide | omega, ⟨by first | decide | omega, by first | decide | omega⟩, ⟨fun q1 => ?_, fun q2 => ⟨by first | decide | omega, ⟨fun q3 => ?_, fun q4 => ⟨by first | decide | omega, ?_⟩⟩⟩⟩⟩
    try (any_goals (exfalso; first | omega | exact absurd trivial (by assumption)))
    refine cl_134 hn hc (by rw [zup_a (by omega)]; exact h142) (by rw [zup_a (by omega)]; exact h822) ?_
    rw [zup_a (by omega), hM2.2.2.2]
    refine Ko _ [] t _ hR F ?_ (MR_8 (by omega) (MR_8 (by omega) (MR_8 (by omega) hW2))) ?_ ?_ ?_ zup_s
    · rw [show m + ((([] : List Int).length : Nat) : Int) + t.length = m + t.length by simp]
      exact Mo_8 (by omega) (Mo_8 (by omega) (Mo_8 (by omega) hM2))
    · rw [zup_a (by omega), zup_a (by omega), zup_a (by omega)]; exact h832
    · rw [zup_a (by omega), zup_a (by omega), zup_s]; simp
    · rw [zup_a (by omega), zup_s]; simp
  rw [if_pos cc] at hR
  rw [if_pos cc, pCmp_nil] at *
  have hgd2 := (pUnitB_gl (X := X) (k := 6)) (pS X q) (by omega) (by omega)
  have hBS := pUnitB_S (X := X) (s := pSumL X 6) (q := q)
  refine ⟨fun q1 => ⟨fun q2 => ?_, fun q3 => ⟨by first | decide | omega, ?_⟩⟩, fun q4 => ⟨fun q5 => ?_, fun q6 => ⟨by first | decide | omega, ?_⟩⟩⟩
  try (any_goals (exfalso; first | omega | exact absurd trivial (by assumption)))
  refine hcmp n (pS X q) (m + t.length) _ _ hn hX2 h142 hM2 (by omega) (by omega) (by omega) (fun e v3 w1 w2 w3 => ?_) (fun r u v3 w1 w2 w3 w4 => ?_)
  · have he := hgd2.1 e w1
    obtain ⟨a1, a2, a3, a4⟩ := w3
    have w1' : pCmp X (pSumL X 6) q [] = .error e := hBS.symm.trans w1
    simp only [w1'] at hR
    refine ⟨by first | decide | omega, ?_⟩
    refine c_M_goOnAndE a2 (by omega) ?_
    refine ⟨by first | decide | omega, ?_⟩
    refine c_M_goOnOrE a2 (by omega) ?_
    exact cl_96e hn hc (h14_M w2 h142) (by rw [w2.1 82 (by omega) (by omega) (by omega) (by omega)]; exact h822) a2 (by omega) (fun v' f1 f2 => Ke e v' hR (FC_tr hF2 (FC_tr (FC_M w2) (f1 (m + t.length)) (by omega)) (by omega)) f2)
  obtain ⟨y1, y2, y3⟩ := hgd2.2 r u w1
  have w1' : pCmp X (pSumL X 6) q [] = .ok (r, u) := hBS.symm.trans w1
  simp only [w1'] at hR
  have e3 : m + (t.length : Int) + u.length = m + ((t ++ u).length : Int) := by simp; omega
  have hW3 := MR_join hW2 w2 w4
  have hM3 := w3
  rw [e3] at hM3
  have hX3 := TM_M w2 hX2
  have h143 := h14_M w2 h142
  have h823 : v3 82 n = c := by rw [w2.1 82 (by omega) (by omega) (by omega) (by omega)]; exact h822
  have h833 : v3 83 (90 * n + c) = m := by rw [w2.1 83 (by omega) (by omega) (by omega) (by omega)]; exact h832
  have hF3 : FC n m c v0 v3 := FC_tr hF2 (FC_M w2) (by omega)
  have hl3 : m + ((t ++ u).length : Int) ≤ r := by simp; omega
  have ht3 : 1 ≤ (t ++ u).length := by simp; omega
  generalize t ++ u = T at hR hW3 hM3 hl3 ht3
  have hglA := pTl_gl (X := X) (m := m) (fun _ h => (sep_and h).1) (pGd_l (pUc_gd 6)) (q := r) (acc := T) (by omega) y2 (by omega) ht3 hl3
  refine ⟨by first | decide | omega, ?_⟩
  refine hand n r m T _ _ hn hX3 h143 hM3 hW3 (by omega) y2 hm ht3 hl3 (fun e v4 x1 x2 x3 => ?_) (fun r2 t2 v4 x1 x2 x3 x4 => ?_)
  · have he := hglA.1 e x1
    obtain ⟨a1, a2, a3, a4⟩ := x3
    simp only [x1] at hR
    refine ⟨by first | decide | omega, ?_⟩
    refine c_M_goOnOrE a2 (by omega) ?_
    exact cl_96e hn hc (h14_M x2 h143) (by rw [x2.1 82 (by omega) (by omega) (by omega) (by omega)]; exact h823) a2 (by omega) (fun v' f1 f2 => Ke e v' hR (FC_tr hF3 (FC_tr (FC_M x2) (f1 m) (by omega)) (by omega)) f2)
  obtain ⟨z1, z2, z3⟩ := hglA.2 r2 t2 x1
  simp only [x1] at hR
  have ht4 : 1 ≤ t2.length := by
    have hh := pStar_len (f := (X.2 - r).toNat + 1) (X := X) (sep := isAnd) (item := pUc X 6) r T x1
    omega
  have hX4 := TM_M x2 hX3
  have h144 := h14_M x2 h143
  have h824 : v4 82 n = c := by rw [x2.1 82 (by omega) (by omega) (by omega) (by omega)]; exact h823
  have h834 : v4 83 (90 * n + c) = m := by rw [x2.1 83 (by omega) (by omega) (by omega) (by omega)]; exact h833
  have hF4 : FC n m c v0 v4 := FC_tr hF3 (FC_M x2) (by omega)
  have hglO := pTl_gl (X := X) (m := m) (fun _ h => (sep_or h).1) (pGd_l (pSep_gd (fun _ h => sep_and h) (pUc_gd 6))) (q := r2) (acc := t2) (by omega) z2 (by omega) ht4 z3
  refine ⟨by first | decide | omega, ?_⟩
  refine hor n r2 m t2 _ _ hn hX4 h144 x3 x4 (by omega) z2 hm ht4 z3 (fun e v5 b1 b2 b3 => ?_) (fun r3 t3 v5 b1 b2 b3 b4 => ?_)
  · have he := hglO.1 e b1
    have a2 := b3.2.1
    simp only [b1] at hR
    exact cl_96e hn hc (h14_M b2 h144) (by rw [b2.1 82 (by omega) (by omega) (by omega) (by omega)]; exact h824) a2 (by omega) (fun v' f1 f2 => Ke e v' hR (FC_tr hF4 (FC_tr (FC_M b2) (f1 m) (by omega)) (by omega)) f2)
  · obtain ⟨d1, d2, d3⟩ := hglO.2 r3 t3 b1
    simp only [b1] at hR
    exact cl_96q ht hn hc (TM_M b2 hX4) (h14_M b2 h144) (by rw [b2.1 82 (by omega) (by omega) (by omega) (by omega)]; exact h824) (by rw [b2.1 83 (by omega) (by omega) (by omega) (by omega)]; exact h834) b3 b4 hm (by omega) d2 (by omega) (FC_tr hF4 (FC_M b2) (by omega)) hR Ke Ko
theorem c_M_clause {X : zTp} {n p m c : Int} (ht : tOk X) (hn : 0 ≤ n ∧ n ≤ 4) (hc : 0 ≤ c ∧ c ≤ 88) (hX : TM v X) (h14 : v 77 14 = n) (h82 : v 82 n = c) (hM : Mo v n p 6 m) (h0 : 0 ≤ p) (h1 : p ≤ X.2) (hm : 0 ≤ m ∧ m ≤ p)
    (Ke : ∀ (e : Int) (v' : zH), pClau X p = .error e → FC n m c v v' → v' 77 4 = e → Q 0 v')
    (Ko : ∀ (q : Int) (a b : List Int) (v' : zH), pClau X p = .ok (q, (a, b)) → FC n m c v v' → Mo v' n q 6 (m + a.length + b.length) → MR v' (340 * n + m) (a ++ b) → v' 83 (90 * n + c) = m → v' 84 (90 * n + c) = m + a.length → v' 85 (90 * n + c) = m + a.length + b.length → v' 82 n = c + 1 → Q 0 v') : zC l G 1 (d + 40) h_M_clause [(2, 77)] v 115 Q := by
  have hn1 := ht.1
  have hb := pS_b (X := X) p
  unfold pClau at Ke Ko
  refine zC_at ok_M_clause ck_M_clause rfl rfl (sg_M_clause_0 ?_)
  try simp (disch := omega) only [zup_e, zup_ak, zup_j, Int.zero_add, Int.reduceAdd, mz78, mz79, mz80, mz81, mz82, mz83, mz84, mz85, mz86, mz87, mz88, mz89, mz90, mz91, mz92, mz93, mz94, mz95, mz96, mz97, mz98, mz99, mz100, mz101, mz102, mz103, mz104, mz105, mz106, mz107, mz108, mz109, mz110, mz111, mz112, mz113, h14, hM.2.1, h82]
  refine ⟨by first | decide | omega, ⟨by first | decide | omega, by first | decide | omega⟩, by first | decide | omega, by first | decide | omega, by first | decide | omega, ⟨by first | decide | omega, by first | decide | omega⟩, ⟨by first | decide | omega, by first | decide | omega⟩, by first | decide | omega, ⟨fun q1 => ?_, fun q2 => ⟨by first | decide | omega, ?_⟩⟩⟩
  try (any_goals (exfalso; first | omega | exact absurd trivial (by assumption)))
  refine c_M_look ht hX hM.1 h0 h1 (fun v1 f1 f2 => ?_)
  have hM1 := Mo_A hM f1 f2
  have hX1 := TM_A f1 hX
  by_cases c1 : pC X p = 121
  rotate_left
  · rw [if_neg c1] at Ke
    refine ⟨fun q1 => ?_, fun q2 => ⟨by first | decide | omega, ?_⟩⟩
    try (any_goals (exfalso; first | omega | exact absurd trivial (by assumption)))
    refine c_M_bad hM1.2.1 ?_
    rw [f2]
    refine cl_21e ?_ zup_s (by omega) (fun v' f => Ke _ v' rfl (FC_7 (F7_tr (F7_A f1) (F7_tr (F7_up (by omega)) (F7_A f)))) ?_)
    · rw [zup_j (by omega), f2]; omega
    · rw [f.2 4 (by omega)]; exact zup_s
  rw [if_pos c1] at Ke Ko
  have hlt := pC_lt (X := X) (p := p) (by omega)
  have hb2 := pS_b (X := X) (pS X p + 1)
  refine ⟨fun q1 => ?_, fun q2 => ⟨by first | decide | omega, ?_⟩⟩
  try (any_goals (exfalso; first | omega | exact absurd trivial (by assumption)))
  refine zgo ck_M_clause 300 21 _ _ _ _ rfl (sg_M_clause_21 ?_)
  try simp (disch := omega) only [zup_e, zup_ak, zup_j, Int.zero_add, Int.reduceAdd, mz78, mz79, mz80, mz81, mz82, mz83, mz84, mz85, mz86, mz87, mz88, mz89, mz90, mz91, mz92, mz93, mz94, mz95, mz96, mz97, mz98, mz99, mz100, mz101, mz102, mz103, mz104, mz105, mz106, mz107, mz108, mz109, mz110, mz111, mz112, mz113, f2, hM1.2.1]
  refine ⟨by first | decide | omega, ⟨by first | decide | omega, by first | decide | omega⟩, by first | decide | omega, by first | decide | omega, ⟨fun q1 => ?_, fun q2 => ⟨by first | decide | omega, ?_⟩⟩⟩
  try (any_goals (exfalso; first | omega | exact absurd trivial (by assumption)))
  have hx : FA v1 (zupd v1 77 3 (pS X p + 1)) := FA_up
  refine c_M_look ht (TM_A hx hX1) zup_s (by omega) (by omega) (fun v2 g1 g2 => ?_)
  have hM2 : Mo v2 n (pS X (pS X p + 1)) 6 m := Mo_A hM1 (FA_tr hx g1) g2
  have hX2 := TM_A g1 (TM_A hx hX1)
  have hF2 := FA_tr f1 (FA_tr hx g1)
  by_cases c2 : pC X (pS X p + 1) = 58
  rotate_left
  · rw [if_neg c2] at Ke
    refine ⟨fun q1 => ?_, fun q2 => ⟨by first | decide | omega, ?_⟩⟩
    try (any_goals (exfalso; first | omega | exact absurd trivial (by assumption)))
    refine c_M_bad hM2.2.1 ?_
    rw [g2]
    refine cl_37e ?_ zup_s (by omega) (fun v' f => Ke _ v' rfl (FC_7 (F7_tr (F7_A hF2) (F7_tr (F7_up (by omega)) (F7_A f)))) ?_)
    · rw [zup_j (by omega), g2]; omega
    · rw [f.2 4 (by omega)]; exact zup_s
  rw [if_pos c2] at Ke Ko
  have hlt2 := pC_lt (X := X) (p := pS X p + 1) (by omega)
  have hp2 : m + 2 ≤ pS X (pS X p + 1) + 1 := by omega
  have hp3 : pS X (pS X p + 1) + 1 ≤ X.2 := by omega
  refine ⟨fun q1 => ?_, fun q2 => ⟨by first | decide | omega, ?_⟩⟩
  try (any_goals (exfalso; first | omega | exact absurd trivial (by assumption)))
  have h142 : v2 77 14 = n := by rw [hF2.2 14 (by omega)]; exact h14
  refine zgo ck_M_clause 300 37 _ _ _ _ rfl (sg_M_clause_37 ?_)
  try simp (disch := omega) only [zup_e, zup_ak, zup_j, Int.zero_add, Int.reduceAdd, mz78, mz79, mz80, mz81, mz82, mz83, mz84, mz85, mz86, mz87, mz88, mz89, mz90, mz91, mz92, mz93, mz94, mz95, mz96, mz97, mz98, mz99, mz100, mz101, mz102, mz103, mz104, mz105, mz106, mz107, mz108, mz109, mz110, mz111, mz112, mz113, g2, hM2.2.1, h142, hM2.2.2.2]
  refine ⟨by first | decide | omega, ⟨by first | decide | omega, by first | decide | omega⟩, by first | decide | omega, by first | decide | omega, ⟨fun q1 => ⟨by first | decide | omega, by first | decide | omega, by first | decide | omega, by first | decide | omega, ⟨by first | decide | omega, by first | decide | omega⟩, by first | decide | omega, ⟨by first | decide | omega, by first | decide | omega⟩, by first | decide | omega, ?_⟩, fun q2 => ?_⟩⟩
  try (any_goals (exfalso; first | omega | exact absurd trivial (by assumption)))
  generalize pS X (pS X p + 1) + 1 = a at Ke Ko hp2 hp3 ⊢
  unfold pBody at Ke Ko
  have hba := pS_b (X := X) a
  have hF3 : FC n m c v (zupd (zupd v2 77 3 a) 83 (90 * n + c) m) := FC_tr (FC_7 (m := m) (F7_tr (F7_A hF2) (F7_up (by omega)))) (FC_8 (m := m) (by omega)) (by omega)
  have hM3 := Mo_8 (b := 83) (x := 90 * n + c) (y := m) (by omega) (Mo_up (q' := a) hM2)
  have h833 : (zupd (zupd v2 77 3 a) 83 (90 * n + c) m) 83 (90 * n + c) = m := zup_s
  have h823 : (zupd (zupd v2 77 3 a) 83 (90 * n + c) m) 82 n = c := by rw [zup_a (by omega), zup_a (by omega), hF2.1 82 (by omega)]; exact h82
  generalize zupd (zupd v2 77 3 a) 83 (90 * n + c) m = v3 at hF3 hM3 h833 h823 ⊢
  have hX3 := TM_C hF3 hX
  have h143 : v3 77 14 = n := by rw [hF3.2.1 14 (by omega) (by omega) (by omega)]; exact h14
  refine c_M_look ht hX3 hM3.1 (by omega) hp3 (fun v4 y1 y2 => ?_)
  have hM4 := Mo_A hM3 y1 y2
  have hX4 := TM_A y1 hX3
  by_cases c33 : pC X a = 33
  · rw [if_pos (Or.inl c33)] at Ke Ko
    refine ⟨fun q1 => ?_, fun q2 => ⟨by first | decide | omega, ?_⟩⟩
    try (any_goals (exfalso; first | omega | exact absurd trivial (by assumption)))
    exact cl_68c ht hn hc hX4 (h14_7 (F7_A y1) h143) (by rw [y1.1 82 (by omega)]; exact h823) (by rw [y1.1 83 (by omega)]; exact h833) hM4 hm.1 hp2 hp3 (FC_tr hF3 (FC_7 (m := m) (F7_A y1)) (by omega)) rfl Ke Ko
  refine ⟨fun q1 => ?_, fun q2 => ⟨by first | decide | omega, ?_⟩⟩
  try (any_goals (exfalso; first | omega | exact absurd trivial (by assumption)))
  refine c_M_look ht hX4 y2 (by omega) (by omega) (fun v5 u1 u2 => ?_)
  rw [pC_i]
  rw [pS_i] at u2
  have y5 := FA_tr y1 u1
  have hM5 := Mo_A hM3 y5 u2
  by_cases c40 : pC X a = 40
  · rw [if_pos (Or.inr c40)] at Ke Ko
    refine ⟨fun q1 => ?_, fun q2 => ?_⟩
    try (any_goals (exfalso; first | omega | exact absurd trivial (by assumption)))
    exact cl_68c ht hn hc (TM_A y5 hX3) (h14_7 (F7_A y5) h143) (by rw [y5.1 82 (by omega)]; exact h823) (by rw [y5.1 83 (by omega)]; exact h833) hM5 hm.1 hp2 hp3 (FC_tr hF3 (FC_7 (m := m) (F7_A y5)) (by omega)) rfl Ke Ko
  · rw [if_neg (fun r => r.elim c33 c40)] at Ke Ko
    refine ⟨fun q1 => ?_, fun q2 => ?_⟩
    try (any_goals (exfalso; first | omega | exact absurd trivial (by assumption)))
    exact cl_68s ht hn hc (TM_A y5 hX3) (h14_7 (F7_A y5) h143) (by rw [y5.1 82 (by omega)]; exact h823) (by rw [y5.1 83 (by omega)]; exact h833) hM5 hm.1 hp2 hp3 (FC_tr hF3 (FC_7 (m := m) (F7_A y5)) (by omega)) rfl Ke Ko
end
