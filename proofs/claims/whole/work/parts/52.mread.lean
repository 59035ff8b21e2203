/-! THE REFERENCE: a law read, worked out; the sun -/
def tkN : zLw → Int
  | [] => 0
  | (a, b) :: P => a.length + b.length + tkN P
def MLc (v : zH) (n i o : Int) : zLw → Prop
  | [] => True
  | (a, b) :: P => v 83 (90 * n + i) = o ∧ v 84 (90 * n + i) = o + a.length ∧ v 85 (90 * n + i) = o + a.length + b.length ∧ MR v (340 * n + o) (a ++ b) ∧ MLc v n (i + 1) (o + a.length + b.length) P
theorem tkN_0 : ∀ P : zLw, 0 ≤ tkN P
  | [] => by show (0 : Int) ≤ 0; omega
  | (a, b) :: P => by
    have := tkN_0 P
    show 0 ≤ (a.length : Int) + b.length + tkN P
    omega
theorem tkN_app : ∀ (P R : zLw), tkN (P ++ R) = tkN P + tkN R
  | [], R => by show tkN R = 0 + tkN R; omega
  | (a, b) :: P, R => by
    show (a.length : Int) + b.length + tkN (P ++ R) = a.length + b.length + tkN P + tkN R
    rw [tkN_app P R]
    omega
theorem tkN_l : ∀ P : zLw, lTy P → tkN P + P.length ≤ (lFl P).length ∧ 2 * P.length ≤ (lFl P).length
  | [], _ => by
    show (0 : Int) + 0 ≤ 0 ∧ 2 * 0 ≤ 0
    omega
  | (a, b) :: P, h => by
    have h1 := tkN_l P (fun c hc => h c (List.mem_cons_of_mem _ hc))
    have h2 := h (a, b) List.mem_cons_self
    have hb : 1 ≤ b.length := by
      have := tRn_nn h2.2
      cases b with
      | nil => exact absurd rfl this
      | cons x y => simp
    have e : (lFl ((a, b) :: P)).length = (cFl (a, b)).length + (lFl P).length := by
      show (cFl (a, b) ++ lFl P).length = _
      rw [List.length_append]
    have e2 : a.length + b.length + 1 ≤ (cFl (a, b)).length := by
      unfold cFl
      split
      · rename_i q
        have q : a = [] := q
        rw [q]
        simp
      · simp
        omega
    rw [e]
    show (a.length : Int) + b.length + tkN P + ((P.length + 1 : Nat) : Int) ≤ _ ∧ 2 * (P.length + 1) ≤ _
    omega
theorem MLc_fr {v v' : zH} {n : Int} : ∀ (P : zLw) (i o : Int), (∀ j : Int, 90 * n + i ≤ j → j < 90 * n + i + P.length → v' 83 j = v 83 j ∧ v' 84 j = v 84 j ∧ v' 85 j = v 85 j) → (∀ j : Int, 340 * n + o ≤ j → j < 340 * n + o + tkN P → v' 79 j = v 79 j ∧ v' 80 j = v 80 j) → MLc v n i o P → MLc v' n i o P
  | [], _, _, _, _, _ => trivial
  | (a, b) :: P, i, o, h, g, ⟨k1, k2, k3, k4, k5⟩ => by
    have h0 := h (90 * n + i) (by omega) (by simp; omega)
    have tp := tkN_0 P
    have g' : ∀ j : Int, 340 * n + o ≤ j → j < 340 * n + o + (a.length + b.length + tkN P) → v' 79 j = v 79 j ∧ v' 80 j = v 80 j := g
    refine ⟨by rw [h0.1]; exact k1, by rw [h0.2.1]; exact k2, by rw [h0.2.2]; exact k3, MR_fr _ _ (fun j j1 j2 => g' j (by omega) (by simp at j2; omega)) k4, MLc_fr P _ _ (fun j j1 j2 => h j (by omega) (by simp; omega)) (fun j j1 j2 => g' j (by omega) (by omega)) k5⟩
theorem MLc_app {v : zH} {n : Int} : ∀ (P R : zLw) (i o : Int), MLc v n i o (P ++ R) ↔ MLc v n i o P ∧ MLc v n (i + P.length) (o + tkN P) R
  | [], R, i, o => by
    show MLc v n i o R ↔ True ∧ MLc v n (i + ((0 : Nat) : Int)) (o + 0) R
    simp
  | (a, b) :: P, R, i, o => by
    have e1 : i + 1 + (P.length : Int) = i + (((a, b) :: P).length : Int) := by simp; omega
    have e2 : o + a.length + b.length + tkN P = o + tkN ((a, b) :: P) := by show _ = o + ((a.length : Int) + b.length + tkN P); omega
    show (_ ∧ _ ∧ _ ∧ _ ∧ MLc v n (i + 1) (o + a.length + b.length) (P ++ R)) ↔ (_ ∧ _ ∧ _ ∧ _ ∧ _) ∧ _
    rw [MLc_app P R (i + 1) (o + a.length + b.length), e1, e2]
    simp only [and_assoc]
def FLn (n : Int) (v v' : zH) : Prop := (∀ b : Int, (b < 77 ∨ b = 78 ∨ 85 < b) → v' b = v b) ∧ (∀ k : Int, k ≠ 3 → k ≠ 4 → k ≠ 5 → k ≠ 14 → v' 77 k = v 77 k) ∧ (∀ j : Int, j ≠ n → v' 81 j = v 81 j ∧ v' 82 j = v 82 j) ∧ (∀ j : Int, ¬ (340 * n ≤ j ∧ j < 340 * n + 340) → v' 79 j = v 79 j ∧ v' 80 j = v 80 j) ∧ (∀ j : Int, ¬ (90 * n ≤ j ∧ j < 90 * n + 90) → v' 83 j = v 83 j ∧ v' 84 j = v 84 j ∧ v' 85 j = v 85 j)
theorem FLn_tr {n : Int} {u v w : zH} (h : FLn n u v) (g : FLn n v w) : FLn n u w :=
  ⟨fun b a => (g.1 b a).trans (h.1 b a), fun k a1 a2 a3 a4 => (g.2.1 k a1 a2 a3 a4).trans (h.2.1 k a1 a2 a3 a4), fun j a => ⟨(g.2.2.1 j a).1.trans (h.2.2.1 j a).1, (g.2.2.1 j a).2.trans (h.2.2.1 j a).2⟩, fun j a => ⟨((g.2.2.2.1 j a).1).trans (h.2.2.2.1 j a).1, ((g.2.2.2.1 j a).2).trans (h.2.2.2.1 j a).2⟩, fun j a => ⟨(g.2.2.2.2 j a).1.trans (h.2.2.2.2 j a).1, (g.2.2.2.2 j a).2.1.trans (h.2.2.2.2 j a).2.1, (g.2.2.2.2 j a).2.2.trans (h.2.2.2.2 j a).2.2⟩⟩
theorem FLn_C {n m c : Int} {v v' : zH} (hm : 0 ≤ m) (hc : 0 ≤ c ∧ c < 90) (h : FC n m c v v') : FLn n v v' := ⟨h.1, fun k a1 a2 a3 _ => h.2.1 k a1 a2 a3, h.2.2.1, fun j a => h.2.2.2.1 j (by omega), fun j a => h.2.2.2.2 j (by omega)⟩
theorem FLn_7 {n : Int} {v v' : zH} (h : F7 v v') : FLn n v v' := FLn_C (m := 0) (c := 0) (by omega) (by omega) (FC_7 h)
theorem TM_L {n : Int} {v v' : zH} {X : zTp} (h : FLn n v v') (k : TM v X) : TM v' X := TM_fr (h.2.1 2 (by omega) (by omega) (by omega) (by omega)) (h.1 78 (by omega)) k
def LTs (v : zH) (t r c dd s : Int) : Prop := v 86 0 = t ∧ v 86 1 = r ∧ v 86 2 = c ∧ v 86 3 = dd ∧ v 86 4 = s
def MS (v : zH) (S : zSk) : Prop := v 77 13 = (kA S).length ∧ v 77 37 = kR S ∧ v 77 38 = kH S ∧ ∀ (k : Nat) (P : zLw), (kA S)[k]? = some P → v 82 k = P.length ∧ MLc v k 0 0 P
section
variable {l : Launch} {G : zG} {d : Nat} {v : zH} {Q : Int → zH → Prop}
theorem c_M_atEndE {e : Int} (hw : v 77 4 = e) (he : e ≠ -1) (K : Q e v) : zC l G 1 (d + 3) h_M_atEnd [(2, 77)] v 115 Q := by
  refine zC_at ok_M_atEnd ck_M_atEnd rfl rfl (sg_M_atEnd_0 ?_)
  try simp (disch := omega) only [zup_e, zup_ak, zup_j, Int.zero_add, Int.reduceAdd, mz78, mz79, mz80, mz81, mz82, mz83, mz84, mz85, mz86, mz87, mz88, mz89, mz90, mz91, mz92, mz93, mz94, mz95, mz96, mz97, mz98, mz99, mz100, mz101, mz102, mz103, mz104, mz105, mz106, mz107, mz108, mz109, mz110, mz111, mz112, mz113, hw]
  refine ⟨by first | decide | omega, ⟨fun q1 => ⟨by first | decide | omega, ?_⟩, fun q2 => ⟨by first | decide | omega, ?_⟩⟩⟩
  try (any_goals (exfalso; first | omega | exact absurd trivial (by assumption)))
  exact K
theorem c_M_atEnd {X : zTp} {q : Int} (ht : tOk X) (hX : TM v X) (hq : v 77 3 = q) (hw : v 77 4 = -1) (h0 : 0 ≤ q) (h1 : q ≤ X.2) (K1 : pC X q = -1 → ∀ v' : zH, F7 v v' → Q (-1) v') (K0 : pC X q ≠ -1 → ∀ v' : zH, F7 v v' → Q (pS X q) v') : zC l G 1 (d + 3) h_M_atEnd [(2, 77)] v 115 Q := by
  refine zC_at ok_M_atEnd ck_M_atEnd rfl rfl (sg_M_atEnd_0 ?_)
  try simp (disch := omega) only [zup_e, zup_ak, zup_j, Int.zero_add, Int.reduceAdd, mz78, mz79, mz80, mz81, mz82, mz83, mz84, mz85, mz86, mz87, mz88, mz89, mz90, mz91, mz92, mz93, mz94, mz95, mz96, mz97, mz98, mz99, mz100, mz101, mz102, mz103, mz104, mz105, mz106, mz107, mz108, mz109, mz110, mz111, mz112, mz113, hw]
  refine ⟨by first | decide | omega, ⟨fun q1 => ⟨by first | decide | omega, ?_⟩, fun q2 => ⟨by first | decide | omega, ?_⟩⟩⟩
  try (any_goals (exfalso; first | omega | exact absurd trivial (by assumption)))
  refine c_M_look ht hX hq h0 h1 (fun v1 f1 f2 => ?_)
  have hw1 : v1 77 4 = -1 := by rw [f1.2 4 (by omega)]; exact hw
  show _
  simp only [hw1]
  by_cases c : pC X q = -1
  · refine ⟨fun q1 => ⟨by first | decide | omega, ?_⟩, fun q2 => ⟨by first | decide | omega, ?_⟩⟩
    try (any_goals (exfalso; first | omega | exact absurd trivial (by assumption)))
    exact K1 c v1 (F7_A f1)
  · refine ⟨fun q1 => ⟨by first | decide | omega, ?_⟩, fun q2 => ⟨by first | decide | omega, ?_⟩⟩
    try (any_goals (exfalso; first | omega | exact absurd trivial (by assumption)))
    refine c_M_bad hw1 ?_
    rw [f2, zup_s]
    refine ⟨by first | decide | omega, ?_⟩
    exact K0 c _ (F7_tr (F7_A f1) (F7_up (by omega)))
theorem rl_5 {X : zTp} {n : Int} {v0 : zH} {R : Except Int zLw} {QX : Nat → zH → Prop} (ht : tOk X) (hn : 0 ≤ n ∧ n ≤ 4)
    (Ke : ∀ (e : Int) (v' : zH), R = .error e → FLn n v0 v' → Q e v') (Ko : ∀ (P : zLw) (v' : zH), R = .ok P → FLn n v0 v' → v' 82 n = P.length → MLc v' n 0 0 P → Q (-1) v') :
    ∀ (f : Nat) {v : zH} {q : Int} {acc : zLw}, X.2 - q < f → TM v X → v 77 14 = n → FLn n v0 v → Mo v n q 6 (tkN acc) → v 82 n = acc.length → MLc v n 0 0 acc → lTy acc → ((lFl acc).length : Int) ≤ q → 0 ≤ q → q ≤ X.2 → R = (if pC X q = 59 then pLawF X f (pS X q + 1) acc else if pC X q = -1 then .ok acc else .error (pS X q)) →
    zJ l G 1 (d + 41) h_M_readLaw k_M_readLaw 115 Q QX 5 [(2, 77), (3, 0)] [] v 115
  | 0, v, q, acc, hf, hX, h14, hF, hM, h82, hW, hty, hl, h0, h1, hR => by omega
  | f + 1, v, q, acc, hf, hX, h14, hF, hM, h82, hW, hty, hl, h0, h1, hR => by
    have hn1 := ht.1
    have hb := pS_b (X := X) q
    have htk := tkN_l acc hty
    have ht0 := tkN_0 acc
    refine zgo ck_M_readLaw 300 5 _ _ _ _ rfl (sg_M_readLaw_5 ?_)
    try simp (disch := omega) only [zup_e, zup_ak, zup_j, Int.zero_add, Int.reduceAdd, mz78, mz79, mz80, mz81, mz82, mz83, mz84, mz85, mz86, mz87, mz88, mz89, mz90, mz91, mz92, mz93, mz94, mz95, mz96, mz97, mz98, mz99, mz100, mz101, mz102, mz103, mz104, mz105, mz106, mz107, mz108, mz109, mz110, mz111, mz112, mz113, hM.2.1]
    refine ⟨by first | decide | omega, ⟨fun q1 => ⟨by first | decide | omega, ?_⟩, fun q2 => ⟨by first | decide | omega, ?_⟩⟩⟩
    try (any_goals (exfalso; first | omega | exact absurd trivial (by assumption)))
    refine c_M_look ht hX hM.1 h0 h1 (fun v1 f1 f2 => ?_)
    have hM1 := Mo_A hM f1 f2
    have hX1 := TM_A f1 hX
    have hF1 := FLn_tr hF (FLn_7 (F7_A f1))
    have hW1 : MLc v1 n 0 0 acc := MLc_fr acc 0 0 (fun j _ _ => by rw [f1.1 83 (by omega), f1.1 84 (by omega), f1.1 85 (by omega)]; exact ⟨rfl, rfl, rfl⟩) (fun j _ _ => by rw [f1.1 79 (by omega), f1.1 80 (by omega)]; exact ⟨rfl, rfl⟩) hW
    have h821 : v1 82 n = acc.length := by rw [f1.1 82 (by omega)]; exact h82
    by_cases c59 : pC X q = 59
    rotate_left
    · rw [if_neg c59] at hR
      refine ⟨fun q1 => ⟨by first | decide | omega, ?_⟩, fun q2 => ⟨by first | decide | omega, ⟨by first | decide | omega, by first | decide | omega⟩, by first | decide | omega, by first | decide | omega, ?_⟩⟩
      try (any_goals (exfalso; first | omega | exact absurd trivial (by assumption)))
      refine c_M_atEnd ht hX1 hM1.1 hM1.2.1 (by omega) (by omega) (fun c v' g => ?_) (fun c v' g => ?_)
      · rw [pC_i] at c
        rw [if_pos c] at hR
        refine Ko acc v' hR (FLn_tr hF1 (FLn_7 g)) (by rw [g.1 82 (by omega)]; exact h821) (MLc_fr acc 0 0 (fun j _ _ => by rw [g.1 83 (by omega), g.1 84 (by omega), g.1 85 (by omega)]; exact ⟨rfl, rfl, rfl⟩) (fun j _ _ => by rw [g.1 79 (by omega), g.1 80 (by omega)]; exact ⟨rfl, rfl⟩) hW1)
      · rw [pC_i] at c
        rw [if_neg c] at hR
        rw [pS_i]
        exact Ke _ v' hR (FLn_tr hF1 (FLn_7 g))
    rw [if_pos c59] at hR
    have hlt := pC_lt (X := X) (p := q) (by omega)
    have hgd := pClau_gd (X := X) (p := pS X q + 1) (by omega) (by omega) (by omega)
    have hR : R = (match pClau X (pS X q + 1) with
      | .error e => .error e
      | .ok (q, c) => if pC X q = 59 then pLawF X f (pS X q + 1) (acc ++ [c]) else if pC X q = -1 then .ok (acc ++ [c]) else .error (pS X q)) := hR
    show _
    simp only [f2]
    refine ⟨fun q1 => ⟨by first | decide | omega, ?_⟩, fun q2 => ⟨by first | decide | omega, ⟨by first | decide | omega, by first | decide | omega⟩, by first | decide | omega, by first | decide | omega, ?_⟩⟩
    try (any_goals (exfalso; first | omega | exact absurd trivial (by assumption)))
    have hx : FA v1 (zupd v1 77 3 (pS X q + 1)) := FA_up
    have hF2 := FLn_tr hF1 (FLn_7 (n := n) (F7_A hx))
    refine c_M_clause (c := acc.length) ht hn (by omega) (TM_A hx hX1) (by rw [zup_j (by omega), f1.2 14 (by omega)]; exact h14) (by rw [zup_a (by omega)]; exact h821) (Mo_up hM1) (by omega) (by omega) (by omega) (fun e v2 n1 n2 n3 => ?_) (fun q2 a b v2 n1 n2 n3 n4 n5 n6 n7 n8 => ?_)
    · have he := hgd.1 e n1
      rw [n1] at hR
      refine zgo ck_M_readLaw 300 5 _ _ _ _ rfl (sg_M_readLaw_5 ?_)
      try simp (disch := omega) only [zup_e, zup_ak, zup_j, Int.zero_add, Int.reduceAdd, mz78, mz79, mz80, mz81, mz82, mz83, mz84, mz85, mz86, mz87, mz88, mz89, mz90, mz91, mz92, mz93, mz94, mz95, mz96, mz97, mz98, mz99, mz100, mz101, mz102, mz103, mz104, mz105, mz106, mz107, mz108, mz109, mz110, mz111, mz112, mz113, n3]
      refine ⟨by first | decide | omega, ⟨fun q1 => ⟨by first | decide | omega, ?_⟩, fun q2 => ⟨by first | decide | omega, ?_⟩⟩⟩
      try (any_goals (exfalso; first | omega | exact absurd trivial (by assumption)))
      refine c_M_atEndE n3 (by omega) ?_
      exact Ke e v2 hR (FLn_tr hF2 (FLn_C (by omega) (by omega) n2))
    · obtain ⟨g1, g2, g3, g4⟩ := hgd.2 q2 (a, b) n1
      rw [n1] at hR
      simp only at hR
      have e1 : tkN acc + (a.length : Int) + b.length = tkN (acc ++ [(a, b)]) := by
        rw [tkN_app]
        show _ = tkN acc + ((a.length : Int) + b.length + 0)
        omega
      rw [e1] at n3
      have hty2 : lTy (acc ++ [(a, b)]) := fun x hx => by
        rw [List.mem_append, List.mem_singleton] at hx
        rcases hx with hx | hx
        · exact hty x hx
        · rw [hx]; exact g4
      have hl2 : ((lFl (acc ++ [(a, b)])).length : Int) ≤ q2 := by
        rw [lFl_app, lFl_1, List.length_append]
        omega
      have hW2 : MLc v2 n 0 0 (acc ++ [(a, b)]) := by
        rw [MLc_app]
        refine ⟨MLc_fr acc 0 0 (fun j j1 j2 => ?_) (fun j j1 j2 => ?_) hW1, ?_, ?_, ?_, ?_, trivial⟩
        · have := n2.2.2.2.2 j (by omega)
          rw [this.1, this.2.1, this.2.2, zup_a (by omega), zup_a (by omega), zup_a (by omega)]
          exact ⟨rfl, rfl, rfl⟩
        · have := n2.2.2.2.1 j (by omega)
          rw [this.1, this.2, zup_a (by omega), zup_a (by omega)]
          exact ⟨rfl, rfl⟩
        · rw [Int.zero_add, Int.zero_add]; exact n5
        · rw [Int.zero_add, Int.zero_add]; exact n6
        · rw [Int.zero_add, Int.zero_add]; exact n7
        · rw [Int.zero_add]; exact n4
      exact rl_5 ht hn Ke Ko f (by omega) (TM_C n2 (TM_A hx hX1)) (by rw [n2.2.1 14 (by omega) (by omega) (by omega), zup_j (by omega), f1.2 14 (by omega)]; exact h14) (FLn_tr hF2 (FLn_C (by omega) (by omega) n2)) n3 (by rw [n8]; simp) hW2 hty2 hl2 (by omega) g2 hR
theorem c_M_readLaw {X : zTp} {n : Int} (ht : tOk X) (hn : 0 ≤ n ∧ n ≤ 4) (hX : TM v X) (Ke : ∀ (e : Int) (v' : zH), pLaw X = .error e → FLn n v v' → Q e v') (Ko : ∀ (P : zLw) (v' : zH), pLaw X = .ok P → FLn n v v' → v' 82 n = P.length → MLc v' n 0 0 P → Q (-1) v') : zC l G 1 (d + 41) h_M_readLaw [(2, 77), (0, n)] v 115 Q := by
  have hn1 := ht.1
  have hgd := pClau_gd (X := X) (p := 0) (by omega) (by omega) (by omega)
  have hL : pLaw X = (match pClau X 0 with
      | .error e => .error e
      | .ok (q, c) => if pC X q = 59 then pLawF X X.2.toNat (pS X q + 1) ([] ++ [c]) else if pC X q = -1 then .ok ([] ++ [c]) else .error (pS X q)) := rfl
  refine zC_at ok_M_readLaw ck_M_readLaw rfl rfl (sg_M_readLaw_0 ?_)
  try simp (disch := omega) only [zup_e, zup_ak, zup_j, Int.zero_add, Int.reduceAdd, mz78, mz79, mz80, mz81, mz82, mz83, mz84, mz85, mz86, mz87, mz88, mz89, mz90, mz91, mz92, mz93, mz94, mz95, mz96, mz97, mz98, mz99, mz100, mz101, mz102, mz103, mz104, mz105, mz106, mz107, mz108, mz109, mz110, mz111, mz112, mz113]
  refine ⟨by first | decide | omega, ?_⟩
  refine zC_at ok_M_open ck_M_open rfl rfl (sg_M_open_0 ?_)
  try simp (disch := omega) only [zup_e, zup_ak, zup_j, Int.zero_add, Int.reduceAdd, mz78, mz79, mz80, mz81, mz82, mz83, mz84, mz85, mz86, mz87, mz88, mz89, mz90, mz91, mz92, mz93, mz94, mz95, mz96, mz97, mz98, mz99, mz100, mz101, mz102, mz103, mz104, mz105, mz106, mz107, mz108, mz109, mz110, mz111, mz112, mz113]
  refine ⟨by first | decide | omega, by first | decide | omega, by first | decide | omega, by first | decide | omega, by first | decide | omega, by first | decide | omega, ⟨by first | decide | omega, by first | decide | omega⟩, by first | decide | omega, by first | decide | omega, ⟨by first | decide | omega, by first | decide | omega⟩, ?_⟩
  refine ⟨by first | decide | omega, ?_⟩
  have hF : FLn n v (zupd (zupd (zupd (zupd (zupd (zupd v 77 14 n) 77 3 0) 77 4 (-1)) 77 5 0) 81 n 0) 82 n 0) := by
    refine ⟨fun b a => ?_, fun k a1 a2 a3 a4 => ?_, fun j a => ⟨?_, ?_⟩, fun j a => ⟨?_, ?_⟩, fun j a => ⟨?_, ?_, ?_⟩⟩
    · rw [zup_a (by omega), zup_a (by omega), zup_a (by omega), zup_a (by omega), zup_a (by omega), zup_a (by omega)]
    · rw [zup_a (by omega), zup_a (by omega), zup_j (by omega), zup_j (by omega), zup_j (by omega), zup_j (by omega)]
    all_goals simp (disch := omega) only [zup_ak, zup_j]
  have hX2 := TM_L hF hX
  have x14 : (zupd (zupd (zupd (zupd (zupd (zupd v 77 14 n) 77 3 0) 77 4 (-1)) 77 5 0) 81 n 0) 82 n 0) 77 14 = n := by simp (disch := omega) only [zup_ak, zup_j, zup_e]
  have xM : Mo (zupd (zupd (zupd (zupd (zupd (zupd v 77 14 n) 77 3 0) 77 4 (-1)) 77 5 0) 81 n 0) 82 n 0) n 0 6 0 := ⟨by simp (disch := omega) only [zup_ak, zup_j, zup_e], by simp (disch := omega) only [zup_ak, zup_j, zup_e], by simp (disch := omega) only [zup_ak, zup_j, zup_e]; omega, by simp (disch := omega) only [zup_ak, zup_j, zup_e]⟩
  have x82 : (zupd (zupd (zupd (zupd (zupd (zupd v 77 14 n) 77 3 0) 77 4 (-1)) 77 5 0) 81 n 0) 82 n 0) 82 n = 0 := zup_s
  generalize zupd (zupd (zupd (zupd (zupd (zupd v 77 14 n) 77 3 0) 77 4 (-1)) 77 5 0) 81 n 0) 82 n 0 = v1 at hF hX2 x14 xM x82
  refine c_M_clause (c := 0) ht hn (by omega) hX2 x14 x82 xM (by omega) (by omega) (by omega) (fun e v2 n1 n2 n3 => ?_) (fun q2 a b v2 n1 n2 n3 n4 n5 n6 n7 n8 => ?_)
  · have he := hgd.1 e n1
    rw [n1] at hL
    refine zgo ck_M_readLaw 300 5 _ _ _ _ rfl (sg_M_readLaw_5 ?_)
    try simp (disch := omega) only [zup_e, zup_ak, zup_j, Int.zero_add, Int.reduceAdd, mz78, mz79, mz80, mz81, mz82, mz83, mz84, mz85, mz86, mz87, mz88, mz89, mz90, mz91, mz92, mz93, mz94, mz95, mz96, mz97, mz98, mz99, mz100, mz101, mz102, mz103, mz104, mz105, mz106, mz107, mz108, mz109, mz110, mz111, mz112, mz113, n3]
    refine ⟨by first | decide | omega, ⟨fun q1 => ⟨by first | decide | omega, ?_⟩, fun q2 => ⟨by first | decide | omega, ?_⟩⟩⟩
    try (any_goals (exfalso; first | omega | exact absurd trivial (by assumption)))
    refine c_M_atEndE n3 (by omega) ?_
    exact Ke e v2 hL (FLn_tr hF (FLn_C (by omega) (by omega) n2))
  · obtain ⟨g1, g2, g3, g4⟩ := hgd.2 q2 (a, b) n1
    rw [n1] at hL
    simp only at hL
    have e1 : (0 : Int) + (a.length : Int) + b.length = tkN ([] ++ [(a, b)]) := by
      show _ = (a.length : Int) + b.length + 0
      omega
    rw [e1] at n3
    refine rl_5 ht hn Ke Ko X.2.toNat (by omega) (TM_C n2 hX2) (by rw [n2.2.1 14 (by omega) (by omega) (by omega)]; exact x14) (FLn_tr hF (FLn_C (by omega) (by omega) n2)) n3 (by rw [n8]; rfl) ⟨?_, ?_, ?_, ?_, trivial⟩ (fun x hx => ?_) ?_ (by omega) g2 hL
    · exact n5
    · exact n6
    · exact n7
    · exact n4
    · rw [List.nil_append, List.mem_singleton] at hx
      rw [hx]; exact g4
    · rw [List.nil_append, lFl_1]
      omega
-- worked out
theorem c_M_bounded {x : Int} (K : Q (sBnd x) v) : zC l G 1 (d + 1) h_M_bounded [(1, x)] v 115 Q := by
  have hb := sBnd_b (x := x)
  unfold sBnd at K hb
  refine zC_at ok_M_bounded ck_M_bounded rfl rfl (sg_M_bounded_0 ?_)
  refine ⟨⟨by first | decide | omega, by first | decide | omega⟩, ?_⟩
  exact K
theorem c_M_worked {k a b : Int} (hk : isAr k = true ∨ isCmp k = true ∨ isLg k = true) (ha : -1000000 ≤ a ∧ a ≤ 1000000) (hb : -1000000 ≤ b ∧ b ≤ 1000000) (K : Q (sJn k a b) v) : zC l G 1 (d + 2) h_M_worked [(0, mC (-k)), (1, a), (1, b)] v 115 Q := by
  have ht := tdiv_b (b := b) ha.1 ha.2
  have hm := mul_b ha hb
  rw [isAr_iff, isCmp_iff, isLg_iff] at hk
  refine zC_at ok_M_worked ck_M_worked rfl rfl (sg_M_worked_0 ?_)
  simp only [zcmp_le, zcmp_ge, zcmp_lt, zcmp_gt, zcmp_eq]
  rcases hk with (rfl | rfl | rfl | rfl) | (rfl | rfl | rfl) | (rfl | rfl)
  · rw [show mC (-43) = 2 from by decide]
    refine ⟨fun q1 => ⟨fun q2 => ?_, fun q3 => ⟨fun q4 => ?_, fun q5 => ?_⟩⟩, fun q6 => ⟨⟨by first | decide | omega, by first | decide | omega⟩, ?_⟩, fun q7 => ⟨⟨by first | decide | omega, by first | decide | omega⟩, ?_⟩, fun q8 => ⟨⟨by first | decide | omega, by first | decide | omega⟩, ?_⟩, fun q9 => ⟨fun q10 => ⟨by first | decide | omega, ⟨by first | decide | omega, by first | decide | omega⟩, ?_⟩, fun q11 => ?_⟩, fun q12 => ⟨fun q13 => ?_, fun q14 => ?_⟩, fun q15 => ⟨fun q16 => ?_, fun q17 => ?_⟩, fun q18 => ⟨fun q19 => ?_, fun q20 => ?_⟩, fun q21 => ⟨fun q22 => ?_, fun q23 => ⟨fun q24 => ?_, fun q25 => ?_⟩⟩, fun q26 => ⟨fun q27 => ?_, fun q28 => ⟨fun q29 => ?_, fun q30 => ?_⟩⟩, fun q31 => ⟨fun q32 => ?_, fun q33 => ⟨fun q34 => ?_, fun q35 => ?_⟩⟩⟩
    try (any_goals (exfalso; first | omega | exact absurd trivial (by assumption)))
    refine c_M_bounded ?_
    exact K
  · rw [show mC (-45) = 3 from by decide]
    refine ⟨fun q1 => ⟨fun q2 => ?_, fun q3 => ⟨fun q4 => ?_, fun q5 => ?_⟩⟩, fun q6 => ⟨⟨by first | decide | omega, by first | decide | omega⟩, ?_⟩, fun q7 => ⟨⟨by first | decide | omega, by first | decide | omega⟩, ?_⟩, fun q8 => ⟨⟨by first | decide | omega, by first | decide | omega⟩, ?_⟩, fun q9 => ⟨fun q10 => ⟨by first | decide | omega, ⟨by first | decide | omega, by first | decide | omega⟩, ?_⟩, fun q11 => ?_⟩, fun q12 => ⟨fun q13 => ?_, fun q14 => ?_⟩, fun q15 => ⟨fun q16 => ?_, fun q17 => ?_⟩, fun q18 => ⟨fun q19 => ?_, fun q20 => ?_⟩, fun q21 => ⟨fun q22 => ?_, fun q23 => ⟨fun q24 => ?_, fun q25 => ?_⟩⟩, fun q26 => ⟨fun q27 => ?_, fun q28 => ⟨fun q29 => ?_, fun q30 => ?_⟩⟩, fun q31 => ⟨fun q32 => ?_, fun q33 => ⟨fun q34 => ?_, fun q35 => ?_⟩⟩⟩
    try (any_goals (exfalso; first | omega | exact absurd trivial (by assumption)))
    refine c_M_bounded ?_
    exact K
  · rw [show mC (-42) = 4 from by decide]
    refine ⟨fun q1 => ⟨fun q2 => ?_, fun q3 => ⟨fun q4 => ?_, fun q5 => ?_⟩⟩, fun q6 => ⟨⟨by first | decide | omega, by first | decide | omega⟩, ?_⟩, fun q7 => ⟨⟨by first | decide | omega, by first | decide | omega⟩, ?_⟩, fun q8 => ⟨⟨by first | decide | omega, by first | decide | omega⟩, ?_⟩, fun q9 => ⟨fun q10 => ⟨by first | decide | omega, ⟨by first | decide | omega, by first | decide | omega⟩, ?_⟩, fun q11 => ?_⟩, fun q12 => ⟨fun q13 => ?_, fun q14 => ?_⟩, fun q15 => ⟨fun q16 => ?_, fun q17 => ?_⟩, fun q18 => ⟨fun q19 => ?_, fun q20 => ?_⟩, fun q21 => ⟨fun q22 => ?_, fun q23 => ⟨fun q24 => ?_, fun q25 => ?_⟩⟩, fun q26 => ⟨fun q27 => ?_, fun q28 => ⟨fun q29 => ?_, fun q30 => ?_⟩⟩, fun q31 => ⟨fun q32 => ?_, fun q33 => ⟨fun q34 => ?_, fun q35 => ?_⟩⟩⟩
    try (any_goals (exfalso; first | omega | exact absurd trivial (by assumption)))
    refine c_M_bounded ?_
    exact K
  · rw [show mC (-47) = 5 from by decide]
    unfold sJn at K
    rw [if_neg (by omega), if_neg (by omega), if_neg (by omega), if_pos rfl] at K
    by_cases h0 : b = 0
    · rw [if_pos h0] at K
      refine ⟨fun q1 => ⟨fun q2 => ?_, fun q3 => ⟨fun q4 => ?_, fun q5 => ?_⟩⟩, fun q6 => ⟨⟨by first | decide | omega, by first | decide | omega⟩, ?_⟩, fun q7 => ⟨⟨by first | decide | omega, by first | decide | omega⟩, ?_⟩, fun q8 => ⟨⟨by first | decide | omega, by first | decide | omega⟩, ?_⟩, fun q9 => ⟨fun q10 => ⟨by first | decide | omega, ⟨by first | decide | omega, by first | decide | omega⟩, ?_⟩, fun q11 => ?_⟩, fun q12 => ⟨fun q13 => ?_, fun q14 => ?_⟩, fun q15 => ⟨fun q16 => ?_, fun q17 => ?_⟩, fun q18 => ⟨fun q19 => ?_, fun q20 => ?_⟩, fun q21 => ⟨fun q22 => ?_, fun q23 => ⟨fun q24 => ?_, fun q25 => ?_⟩⟩, fun q26 => ⟨fun q27 => ?_, fun q28 => ⟨fun q29 => ?_, fun q30 => ?_⟩⟩, fun q31 => ⟨fun q32 => ?_, fun q33 => ⟨fun q34 => ?_, fun q35 => ?_⟩⟩⟩
      try (any_goals (exfalso; first | omega | exact absurd trivial (by assumption)))
      exact K
    · rw [if_neg h0] at K
      refine ⟨fun q1 => ⟨fun q2 => ?_, fun q3 => ⟨fun q4 => ?_, fun q5 => ?_⟩⟩, fun q6 => ⟨⟨by first | decide | omega, by first | decide | omega⟩, ?_⟩, fun q7 => ⟨⟨by first | decide | omega, by first | decide | omega⟩, ?_⟩, fun q8 => ⟨⟨by first | decide | omega, by first | decide | omega⟩, ?_⟩, fun q9 => ⟨fun q10 => ⟨by first | decide | omega, ⟨by first | decide | omega, by first | decide | omega⟩, ?_⟩, fun q11 => ?_⟩, fun q12 => ⟨fun q13 => ?_, fun q14 => ?_⟩, fun q15 => ⟨fun q16 => ?_, fun q17 => ?_⟩, fun q18 => ⟨fun q19 => ?_, fun q20 => ?_⟩, fun q21 => ⟨fun q22 => ?_, fun q23 => ⟨fun q24 => ?_, fun q25 => ?_⟩⟩, fun q26 => ⟨fun q27 => ?_, fun q28 => ⟨fun q29 => ?_, fun q30 => ?_⟩⟩, fun q31 => ⟨fun q32 => ?_, fun q33 => ⟨fun q34 => ?_, fun q35 => ?_⟩⟩⟩
      try (any_goals (exfalso; first | omega | exact absurd trivial (by assumption)))
      refine c_M_bounded ?_
      exact K
  · rw [show mC (-61) = 6 from by decide]
    unfold sJn at K
    rw [if_neg (by omega), if_neg (by omega), if_neg (by omega), if_neg (by omega), if_pos rfl] at K
    by_cases h0 : a = b
    · rw [if_pos h0] at K
      refine ⟨fun q1 => ⟨fun q2 => ?_, fun q3 => ⟨fun q4 => ?_, fun q5 => ?_⟩⟩, fun q6 => ⟨⟨by first | decide | omega, by first | decide | omega⟩, ?_⟩, fun q7 => ⟨⟨by first | decide | omega, by first | decide | omega⟩, ?_⟩, fun q8 => ⟨⟨by first | decide | omega, by first | decide | omega⟩, ?_⟩, fun q9 => ⟨fun q10 => ⟨by first | decide | omega, ⟨by first | decide | omega, by first | decide | omega⟩, ?_⟩, fun q11 => ?_⟩, fun q12 => ⟨fun q13 => ?_, fun q14 => ?_⟩, fun q15 => ⟨fun q16 => ?_, fun q17 => ?_⟩, fun q18 => ⟨fun q19 => ?_, fun q20 => ?_⟩, fun q21 => ⟨fun q22 => ?_, fun q23 => ⟨fun q24 => ?_, fun q25 => ?_⟩⟩, fun q26 => ⟨fun q27 => ?_, fun q28 => ⟨fun q29 => ?_, fun q30 => ?_⟩⟩, fun q31 => ⟨fun q32 => ?_, fun q33 => ⟨fun q34 => ?_, fun q35 => ?_⟩⟩⟩
      try (any_goals (exfalso; first | omega | exact absurd trivial (by assumption)))
      exact K
    · rw [if_neg h0] at K
      refine ⟨fun q1 => ⟨fun q2 => ?_, fun q3 => ⟨fun q4 => ?_, fun q5 => ?_⟩⟩, fun q6 => ⟨⟨by first | decide | omega, by first | decide | omega⟩, ?_⟩, fun q7 => ⟨⟨by first | decide | omega, by first | decide | omega⟩, ?_⟩, fun q8 => ⟨⟨by first | decide | omega, by first | decide | omega⟩, ?_⟩, fun q9 => ⟨fun q10 => ⟨by first | decide | omega, ⟨by first | decide | omega, by first | decide | omega⟩, ?_⟩, fun q11 => ?_⟩, fun q12 => ⟨fun q13 => ?_, fun q14 => ?_⟩, fun q15 => ⟨fun q16 => ?_, fun q17 => ?_⟩, fun q18 => ⟨fun q19 => ?_, fun q20 => ?_⟩, fun q21 => ⟨fun q22 => ?_, fun q23 => ⟨fun q24 => ?_, fun q25 => ?_⟩⟩, fun q26 => ⟨fun q27 => ?_, fun q28 => ⟨fun q29 => ?_, fun q30 => ?_⟩⟩, fun q31 => ⟨fun q32 => ?_, fun q33 => ⟨fun q34 => ?_, fun q35 => ?_⟩⟩⟩
      try (any_goals (exfalso; first | omega | exact absurd trivial (by assumption)))
      exact K
  · rw [show mC (-60) = 7 from by decide]
    unfold sJn at K
    rw [if_neg (by omega), if_neg (by omega), if_neg (by omega), if_neg (by omega), if_neg (by omega), if_pos rfl] at K
    by_cases h0 : a < b
    · rw [if_pos h0] at K
      refine ⟨fun q1 => ⟨fun q2 => ?_, fun q3 => ⟨fun q4 => ?_, fun q5 => ?_⟩⟩, fun q6 => ⟨⟨by first | decide | omega, by first | decide | omega⟩, ?_⟩, fun q7 => ⟨⟨by first | decide | omega, by first | decide | omega⟩, ?_⟩, fun q8 => ⟨⟨by first | decide | omega, by first | decide | omega⟩, ?_⟩, fun q9 => ⟨fun q10 => ⟨by first | decide | omega, ⟨by first | decide | omega, by first | decide | omega⟩, ?_⟩, fun q11 => ?_⟩, fun q12 => ⟨fun q13 => ?_, fun q14 => ?_⟩, fun q15 => ⟨fun q16 => ?_, fun q17 => ?_⟩, fun q18 => ⟨fun q19 => ?_, fun q20 => ?_⟩, fun q21 => ⟨fun q22 => ?_, fun q23 => ⟨fun q24 => ?_, fun q25 => ?_⟩⟩, fun q26 => ⟨fun q27 => ?_, fun q28 => ⟨fun q29 => ?_, fun q30 => ?_⟩⟩, fun q31 => ⟨fun q32 => ?_, fun q33 => ⟨fun q34 => ?_, fun q35 => ?_⟩⟩⟩
      try (any_goals (exfalso; first | omega | exact absurd trivial (by assumption)))
      exact K
    · rw [if_neg h0] at K
      refine ⟨fun q1 => ⟨fun q2 => ?_, fun q3 => ⟨fun q4 => ?_, fun q5 => ?_⟩⟩, fun q6 => ⟨⟨by first | decide | omega, by first | decide | omega⟩, ?_⟩, fun q7 => ⟨⟨by first | decide | omega, by first | decide | omega⟩, ?_⟩, fun q8 => ⟨⟨by first | decide | omega, by first | decide | omega⟩, ?_⟩, fun q9 => ⟨fun q10 => ⟨by first | decide | omega, ⟨by first | decide | omega, by first | decide | omega⟩, ?_⟩, fun q11 => ?_⟩, fun q12 => ⟨fun q13 => ?_, fun q14 => ?_⟩, fun q15 => ⟨fun q16 => ?_, fun q17 => ?_⟩, fun q18 => ⟨fun q19 => ?_, fun q20 => ?_⟩, fun q21 => ⟨fun q22 => ?_, fun q23 => ⟨fun q24 => ?_, fun q25 => ?_⟩⟩, fun q26 => ⟨fun q27 => ?_, fun q28 => ⟨fun q29 => ?_, fun q30 => ?_⟩⟩, fun q31 => ⟨fun q32 => ?_, fun q33 => ⟨fun q34 => ?_, fun q35 => ?_⟩⟩⟩
      try (any_goals (exfalso; first | omega | exact absurd trivial (by assumption)))
      exact K
  · rw [show mC (-62) = 8 from by decide]
    unfold sJn at K
    rw [if_neg (by omega), if_neg (by omega), if_neg (by omega), if_neg (by omega), if_neg (by omega), if_neg (by omega), if_pos rfl] at K
    by_cases h0 : b < a
    · rw [if_pos h0] at K
      refine ⟨fun q1 => ⟨fun q2 => ?_, fun q3 => ⟨fun q4 => ?_, fun q5 => ?_⟩⟩, fun q6 => ⟨⟨by first | decide | omega, by first | decide | omega⟩, ?_⟩, fun q7 => ⟨⟨by first | decide | omega, by first | decide | omega⟩, ?_⟩, fun q8 => ⟨⟨by first | decide | omega, by first | decide | omega⟩, ?_⟩, fun q9 => ⟨fun q10 => ⟨by first | decide | omega, ⟨by first | decide | omega, by first | decide | omega⟩, ?_⟩, fun q11 => ?_⟩, fun q12 => ⟨fun q13 => ?_, fun q14 => ?_⟩, fun q15 => ⟨fun q16 => ?_, fun q17 => ?_⟩, fun q18 => ⟨fun q19 => ?_, fun q20 => ?_⟩, fun q21 => ⟨fun q22 => ?_, fun q23 => ⟨fun q24 => ?_, fun q25 => ?_⟩⟩, fun q26 => ⟨fun q27 => ?_, fun q28 => ⟨fun q29 => ?_, fun q30 => ?_⟩⟩, fun q31 => ⟨fun q32 => ?_, fun q33 => ⟨fun q34 => ?_, fun q35 => ?_⟩⟩⟩
      try (any_goals (exfalso; first | omega | exact absurd trivial (by assumption)))
      exact K
    · rw [if_neg h0] at K
      refine ⟨fun q1 => ⟨fun q2 => ?_, fun q3 => ⟨fun q4 => ?_, fun q5 => ?_⟩⟩, fun q6 => ⟨⟨by first | decide | omega, by first | decide | omega⟩, ?_⟩, fun q7 => ⟨⟨by first | decide | omega, by first | decide | omega⟩, ?_⟩, fun q8 => ⟨⟨by first | decide | omega, by first | decide | omega⟩, ?_⟩, fun q9 => ⟨fun q10 => ⟨by first | decide | omega, ⟨by first | decide | omega, by first | decide | omega⟩, ?_⟩, fun q11 => ?_⟩, fun q12 => ⟨fun q13 => ?_, fun q14 => ?_⟩, fun q15 => ⟨fun q16 => ?_, fun q17 => ?_⟩, fun q18 => ⟨fun q19 => ?_, fun q20 => ?_⟩, fun q21 => ⟨fun q22 => ?_, fun q23 => ⟨fun q24 => ?_, fun q25 => ?_⟩⟩, fun q26 => ⟨fun q27 => ?_, fun q28 => ⟨fun q29 => ?_, fun q30 => ?_⟩⟩, fun q31 => ⟨fun q32 => ?_, fun q33 => ⟨fun q34 => ?_, fun q35 => ?_⟩⟩⟩
      try (any_goals (exfalso; first | omega | exact absurd trivial (by assumption)))
      exact K
  · rw [show mC (-38) = 10 from by decide]
    unfold sJn at K
    rw [if_neg (by omega), if_neg (by omega), if_neg (by omega), if_neg (by omega), if_neg (by omega), if_neg (by omega), if_neg (by omega), if_pos rfl] at K
    by_cases h0 : a ≠ 0 ∧ b ≠ 0
    · rw [if_pos h0] at K
      refine ⟨fun q1 => ⟨fun q2 => ?_, fun q3 => ⟨fun q4 => ?_, fun q5 => ?_⟩⟩, fun q6 => ⟨⟨by first | decide | omega, by first | decide | omega⟩, ?_⟩, fun q7 => ⟨⟨by first | decide | omega, by first | decide | omega⟩, ?_⟩, fun q8 => ⟨⟨by first | decide | omega, by first | decide | omega⟩, ?_⟩, fun q9 => ⟨fun q10 => ⟨by first | decide | omega, ⟨by first | decide | omega, by first | decide | omega⟩, ?_⟩, fun q11 => ?_⟩, fun q12 => ⟨fun q13 => ?_, fun q14 => ?_⟩, fun q15 => ⟨fun q16 => ?_, fun q17 => ?_⟩, fun q18 => ⟨fun q19 => ?_, fun q20 => ?_⟩, fun q21 => ⟨fun q22 => ?_, fun q23 => ⟨fun q24 => ?_, fun q25 => ?_⟩⟩, fun q26 => ⟨fun q27 => ?_, fun q28 => ⟨fun q29 => ?_, fun q30 => ?_⟩⟩, fun q31 => ⟨fun q32 => ?_, fun q33 => ⟨fun q34 => ?_, fun q35 => ?_⟩⟩⟩
      try (any_goals (exfalso; first | omega | exact absurd trivial (by assumption)))
      exact K
    · rw [if_neg h0] at K
      refine ⟨fun q1 => ⟨fun q2 => ?_, fun q3 => ⟨fun q4 => ?_, fun q5 => ?_⟩⟩, fun q6 => ⟨⟨by first | decide | omega, by first | decide | omega⟩, ?_⟩, fun q7 => ⟨⟨by first | decide | omega, by first | decide | omega⟩, ?_⟩, fun q8 => ⟨⟨by first | decide | omega, by first | decide | omega⟩, ?_⟩, fun q9 => ⟨fun q10 => ⟨by first | decide | omega, ⟨by first | decide | omega, by first | decide | omega⟩, ?_⟩, fun q11 => ?_⟩, fun q12 => ⟨fun q13 => ?_, fun q14 => ?_⟩, fun q15 => ⟨fun q16 => ?_, fun q17 => ?_⟩, fun q18 => ⟨fun q19 => ?_, fun q20 => ?_⟩, fun q21 => ⟨fun q22 => ?_, fun q23 => ⟨fun q24 => ?_, fun q25 => ?_⟩⟩, fun q26 => ⟨fun q27 => ?_, fun q28 => ⟨fun q29 => ?_, fun q30 => ?_⟩⟩, fun q31 => ⟨fun q32 => ?_, fun q33 => ⟨fun q34 => ?_, fun q35 => ?_⟩⟩⟩
      try (any_goals (exfalso; first | omega | exact absurd trivial (by assumption)))
      all_goals first | exact K | (exfalso; omega)
  · rw [show mC (-124) = 11 from by decide]
    unfold sJn at K
    rw [if_neg (by omega), if_neg (by omega), if_neg (by omega), if_neg (by omega), if_neg (by omega), if_neg (by omega), if_neg (by omega), if_neg (by omega)] at K
    by_cases h0 : a ≠ 0 ∨ b ≠ 0
    · rw [if_pos h0] at K
      refine ⟨fun q1 => ⟨fun q2 => ?_, fun q3 => ⟨fun q4 => ?_, fun q5 => ?_⟩⟩, fun q6 => ⟨⟨by first | decide | omega, by first | decide | omega⟩, ?_⟩, fun q7 => ⟨⟨by first | decide | omega, by first | decide | omega⟩, ?_⟩, fun q8 => ⟨⟨by first | decide | omega, by first | decide | omega⟩, ?_⟩, fun q9 => ⟨fun q10 => ⟨by first | decide | omega, ⟨by first | decide | omega, by first | decide | omega⟩, ?_⟩, fun q11 => ?_⟩, fun q12 => ⟨fun q13 => ?_, fun q14 => ?_⟩, fun q15 => ⟨fun q16 => ?_, fun q17 => ?_⟩, fun q18 => ⟨fun q19 => ?_, fun q20 => ?_⟩, fun q21 => ⟨fun q22 => ?_, fun q23 => ⟨fun q24 => ?_, fun q25 => ?_⟩⟩, fun q26 => ⟨fun q27 => ?_, fun q28 => ⟨fun q29 => ?_, fun q30 => ?_⟩⟩, fun q31 => ⟨fun q32 => ?_, fun q33 => ⟨fun q34 => ?_, fun q35 => ?_⟩⟩⟩
      try (any_goals (exfalso; first | omega | exact absurd trivial (by assumption)))
      all_goals first | exact K | (exfalso; omega)
    · rw [if_neg h0] at K
      refine ⟨fun q1 => ⟨fun q2 => ?_, fun q3 => ⟨fun q4 => ?_, fun q5 => ?_⟩⟩, fun q6 => ⟨⟨by first | decide | omega, by first | decide | omega⟩, ?_⟩, fun q7 => ⟨⟨by first | decide | omega, by first | decide | omega⟩, ?_⟩, fun q8 => ⟨⟨by first | decide | omega, by first | decide | omega⟩, ?_⟩, fun q9 => ⟨fun q10 => ⟨by first | decide | omega, ⟨by first | decide | omega, by first | decide | omega⟩, ?_⟩, fun q11 => ?_⟩, fun q12 => ⟨fun q13 => ?_, fun q14 => ?_⟩, fun q15 => ⟨fun q16 => ?_, fun q17 => ?_⟩, fun q18 => ⟨fun q19 => ?_, fun q20 => ?_⟩, fun q21 => ⟨fun q22 => ?_, fun q23 => ⟨fun q24 => ?_, fun q25 => ?_⟩⟩, fun q26 => ⟨fun q27 => ?_, fun q28 => ⟨fun q29 => ?_, fun q30 => ?_⟩⟩, fun q31 => ⟨fun q32 => ?_, fun q33 => ⟨fun q34 => ?_, fun q35 => ?_⟩⟩⟩
      try (any_goals (exfalso; first | omega | exact absurd trivial (by assumption)))
      all_goals first | exact K | (exfalso; omega)
end
