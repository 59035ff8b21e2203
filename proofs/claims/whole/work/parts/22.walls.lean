/-! THE PURE PART: a wall's text -/
def upf (f : Int → Int) (j x : Int) : Int → Int := fun i => if i = j then x else f i
theorem upf_s {f : Int → Int} {j x : Int} : upf f j x j = x := by simp [upf]
theorem upf_n {f : Int → Int} {j x i : Int} (h : i ≠ j) : upf f j x i = f i := by simp [upf, h]
/-- the kinds: 0 stones, 1 ovens, 2 sleepers -/
def kN (κ : Int) : Int := if κ = 0 then 3 else if κ = 1 then 5 else 2
def kMx (κ : Int) : Int := if κ = 0 then 4 else if κ = 1 then 3 else 5
def kIt (κ c : Int) : Int :=
  if κ = 0 then (if c = 116 then 0 else if c = 104 then 1 else if c = 103 then 2 else -1)
  else if κ = 1 then (if c = 114 then 0 else if c = 99 then 1 else if c = 102 then 2 else if c = 117 then 3 else if c = 104 then 4 else -1)
  else (if c = 119 then 0 else if c = 102 then 1 else -1)
def kLo (κ k : Int) : Int := if κ = 0 ∧ k = 1 then 1 else 0
def kHi (κ k : Int) : Int :=
  if κ = 0 then (if k = 0 then 9 else if k = 1 then 99 else 10)
  else if κ = 1 then (if k = 0 then 3 else if k = 1 then 5 else if k < 4 then 23 else 20)
  else (if k = 0 then 99 else 9)
def kDf (κ k : Int) : Int :=
  if κ = 0 then (if k = 1 then 60 else 3)
  else if κ = 1 then (if k < 2 then 0 else if k = 2 then 4 else if k = 3 then 7 else 8)
  else (if k = 0 then 5 else 0)
theorem kIt_b {κ c : Int} : kIt κ c = -1 ∨ (0 ≤ kIt κ c ∧ kIt κ c < kN κ) := by
  unfold kIt kN
  repeat' split
  all_goals omega
theorem kDf_b {κ k : Int} (h : 0 ≤ k) (h2 : k < kN κ) : kLo κ k ≤ kDf κ k ∧ kDf κ k ≤ kHi κ k := by
  unfold kN at h2
  unfold kLo kDf kHi
  repeat' split
  all_goals omega
theorem kHi_b {κ k : Int} : 0 ≤ kLo κ k ∧ kHi κ k ≤ 99 := by
  unfold kLo kHi
  repeat' split
  all_goals omega
/-- items of one more of a kind, its numbers from place j0 on -/
def pIts (X : zTp) (κ j0 : Int) : Nat → Int → Int → (Int → Int) → zPx (Int → Int)
  | 0, p, _, _ => .error p
  | f + 1, p, seen, g =>
    if kIt κ (pC X p) = -1 then .ok (pS X p, g)
    else if zand (zshr seen (kIt κ (pC X p))) 1 = 1 then .error (pS X p)
    else match pNm X 2 (pS X p + 1) with
      | .error e => .error e
      | .ok (q, x) => if kLo κ (kIt κ (pC X p)) ≤ x ∧ x ≤ kHi κ (kIt κ (pC X p)) then pIts X κ j0 f q (zor seen (zshl 1 (kIt κ (pC X p)))) (upf g (j0 + kIt κ (pC X p)) x) else .error (q - 1)
def pRw (X : zTp) (R : Int) : Nat → Int → Int → (Int → Int) → zPx (Int × (Int → Int))
  | 0, p, _, _ => .error p
  | f + 1, p, n, g =>
    if 65 ≤ pC X p ∧ pC X p ≤ 68 then (if n = 6 then .error (pS X p) else pRw X R f (pS X p + 1) (n + 1) (upf g (6 * R + n) (pC X p - 65)))
    else if n = 0 then .error (pS X p) else .ok (pS X p, (n, g))
/-- what has been read: of the three kinds how many and their numbers; rows, their lengths, their letters -/
abbrev zDf : Type := Int × (Int → Int) × Int × (Int → Int) × Int × (Int → Int) × Int × (Int → Int) × (Int → Int)
def dS (D : zDf) : Int := D.1
def dT (D : zDf) : Int → Int := D.2.1
def dO (D : zDf) : Int := D.2.2.1
def dV (D : zDf) : Int → Int := D.2.2.2.1
def dZ (D : zDf) : Int := D.2.2.2.2.1
def dL (D : zDf) : Int → Int := D.2.2.2.2.2.1
def dR (D : zDf) : Int := D.2.2.2.2.2.2.1
def dW (D : zDf) : Int → Int := D.2.2.2.2.2.2.2.1
def dE (D : zDf) : Int → Int := D.2.2.2.2.2.2.2.2
def d0 : zDf := (0, fun _ => 0, 0, fun _ => 0, 0, fun _ => 0, 0, fun _ => 0, fun _ => 0)
/-- the numbers told without -/
def uDf (κ n : Int) (g : Int → Int) : Int → Int := fun j => if kN κ * n ≤ j ∧ j < kN κ * n + kN κ then kDf κ (j - kN κ * n) else g j
def pKd (X : zTp) (κ n p : Int) (g : Int → Int) : zPx (Int → Int) :=
  if n = kMx κ then .error (pS X p) else pIts X κ (kN κ * n) ((X.2 - pS X p).toNat + 1) (pS X p + 1) 0 (uDf κ n g)
def pWc (X : zTp) (p : Int) (D : zDf) : zPx zDf :=
  if pC X p = 115 then (match pKd X 0 (dS D) p (dT D) with
    | .error e => .error e
    | .ok (q, g) => .ok (q, (dS D + 1, g, dO D, dV D, dZ D, dL D, dR D, dW D, dE D)))
  else if pC X p = 111 then (match pKd X 1 (dO D) p (dV D) with
    | .error e => .error e
    | .ok (q, g) => .ok (q, (dS D, dT D, dO D + 1, g, dZ D, dL D, dR D, dW D, dE D)))
  else if pC X p = 110 then (match pKd X 2 (dZ D) p (dL D) with
    | .error e => .error e
    | .ok (q, g) => .ok (q, (dS D, dT D, dO D, dV D, dZ D + 1, g, dR D, dW D, dE D)))
  else if pC X p = 108 then (if dR D = 4 then .error (pS X p) else match pRw X (dR D) 7 (pS X p + 1) 0 (dE D) with
    | .error e => .error e
    | .ok (q, (n, g)) => .ok (q, (dS D, dT D, dO D, dV D, dZ D, dL D, dR D + 1, upf (dW D) (dR D) n, g)))
  else .error (pS X p)
def zal (p : Int → Bool) (n : Nat) : Bool := fd (fun b i => b && p i) true n
theorem zal_iff {p : Int → Bool} : ∀ n : Nat, zal p n = true ↔ ∀ i : Int, 0 ≤ i → i < n → p i = true
  | 0 => ⟨fun _ i h1 h2 => by omega, fun _ => rfl⟩
  | n + 1 => by
    have h := zal_iff (p := p) n
    show (zal p n && p n) = true ↔ _
    rw [Bool.and_eq_true, h]
    refine ⟨fun ⟨h1, h2⟩ i g1 g2 => ?_, fun h1 => ⟨fun i g1 g2 => h1 i g1 (by omega), h1 n (by omega) (by omega)⟩⟩
    by_cases e : i = n
    · rw [e]
      exact h2
    · exact h1 i g1 (by omega)
def dRow (D : zDf) (r : Int) : Bool := decide (dW D r = dW D 0) && zal (fun c => decide (dE D (6 * r + c) < dS D)) (dW D r).toNat
def dOvn (D : zDf) (o : Int) : Bool := decide (dV D (5 * o) < dR D) && decide (dV D (5 * o + 1) < dW D 0)
def dSt (D : zDf) : Bool := decide (dS D ≠ 0) && decide (dR D ≠ 0) && zal (dRow D) (dR D).toNat && zal (dOvn D) (dO D).toNat
def pWlF (X : zTp) : Nat → Int → zDf → Except Int zDf
  | 0, p, _ => .error p
  | f + 1, p, D => match pWc X p D with
    | .error e => .error e
    | .ok (q, D') => if pC X q = 59 then pWlF X f (pS X q + 1) D' else if pC X q = -1 ∧ dSt D' = true then .ok D' else .error (pS X q)
def pWl (X : zTp) : Except Int zDf := pWlF X (X.2.toNat + 1) 0 d0
/-- the wall that is told, and its course -/
def dWl (D : zDf) : zWl := (dR D, dW D 0, dR D * dW D 0, dS D, dT D, dO D, dV D, dZ D, dL D, fun a => dE D (6 * (a / dW D 0) + a % dW D 0))
def dCo (D : zDf) : zCo := (0, fun _ => 0, wG (dWl D), fun k => dV D (5 * k + 2), fun k => dV D (5 * k + 3))
def kOk (κ n : Int) (g : Int → Int) : Prop := (0 ≤ n ∧ n ≤ kMx κ) ∧ ∀ s k : Int, 0 ≤ s → s < n → 0 ≤ k → k < kN κ → kLo κ k ≤ g (kN κ * s + k) ∧ g (kN κ * s + k) ≤ kHi κ k
def dOk (D : zDf) : Prop := kOk 0 (dS D) (dT D) ∧ kOk 1 (dO D) (dV D) ∧ kOk 2 (dZ D) (dL D) ∧ (0 ≤ dR D ∧ dR D ≤ 4) ∧
  ∀ r : Int, 0 ≤ r → r < dR D → (1 ≤ dW D r ∧ dW D r ≤ 6) ∧ ∀ c : Int, 0 ≤ c → c < dW D r → 0 ≤ dE D (6 * r + c) ∧ dE D (6 * r + c) ≤ 3
theorem kN_c (κ : Int) : kN κ = 3 ∨ kN κ = 5 ∨ kN κ = 2 := by
  unfold kN
  repeat' split
  all_goals omega
theorem kMx_b (κ : Int) : 1 ≤ kMx κ ∧ kMx κ ≤ 5 := by
  unfold kMx
  repeat' split
  all_goals omega
theorem pIts_gd {X : zTp} {κ n : Int} (hn : 0 ≤ n) (hm : n < kMx κ) : ∀ (f : Nat) (p seen : Int) (g : Int → Int), 0 ≤ p → p ≤ X.2 → X.2 - p < f → kOk κ (n + 1) g →
    (∀ e, pIts X κ (kN κ * n) f p seen g = .error e → p ≤ e ∧ e ≤ X.2) ∧ (∀ q h, pIts X κ (kN κ * n) f p seen g = .ok (q, h) → p ≤ q ∧ q ≤ X.2 ∧ kOk κ (n + 1) h)
  | 0, p, seen, g, h0, h1, h2, h3 => by omega
  | f + 1, p, seen, g, h0, h1, h2, h3 => by
    have hb := pS_b (X := X) p
    have hk := kIt_b (κ := κ) (c := pC X p)
    unfold pIts
    split
    · exact ⟨fun e h => (by cases h), fun q h e => by cases e; exact ⟨hb.1, hb.2 h1, h3⟩⟩
    · rename_i hk1
      have hlt : pS X p < X.2 := by
        refine pC_lt ?_
        unfold kIt at hk1
        have : pC X p ≠ -1 → 0 ≤ pC X p := fun q => by
          repeat' split at hk1
          all_goals omega
        refine this (fun q => hk1 ?_)
        rw [q]
        repeat' split
        all_goals first | rfl | omega
      split
      · exact ⟨fun e h => (by cases h; omega), fun q h e => (by cases e)⟩
      · obtain ⟨n1, n2⟩ := pNm_b (X := X) (m := 2) (p := pS X p + 1) (by omega) (by omega)
        split
        · rename_i e he
          have := n1 e he
          exact ⟨fun e h => (by cases h; omega), fun q h e => (by cases e)⟩
        · rename_i q x he
          have g1 := n2 q x he
          split
          · rename_i hx
            obtain ⟨r1, r2⟩ := pIts_gd (X := X) hn hm f q (zor seen (zshl 1 (kIt κ (pC X p)))) (upf g (kN κ * n + kIt κ (pC X p)) x) (by omega) (by omega) (by omega) ⟨h3.1, fun s k q1 q2 q3 q4 => by
              unfold upf
              split
              · rename_i e
                have : s = n ∧ k = kIt κ (pC X p) := by
                  rcases kN_c κ with c | c | c <;> rw [c] at e q4 hk <;> omega
                rw [this.2]
                exact hx
              · exact h3.2 s k q1 q2 q3 q4⟩
            refine ⟨fun e h => ?_, fun q' h e => ?_⟩
            · have := r1 e h
              omega
            · have := r2 q' h e
              exact ⟨by omega, this.2⟩
          · exact ⟨fun e h => (by cases h; omega), fun q h e => (by cases e)⟩
theorem pKd_gd {X : zTp} {κ n p : Int} {g : Int → Int} (h0 : 0 ≤ p) (h1 : p ≤ X.2) (hc : 0 ≤ pC X p) (hk : kOk κ n g) :
    (∀ e, pKd X κ n p g = .error e → p ≤ e ∧ e ≤ X.2) ∧ (∀ q h, pKd X κ n p g = .ok (q, h) → p < q ∧ q ≤ X.2 ∧ kOk κ (n + 1) h) := by
  have hb := pS_b (X := X) p
  have hlt := pC_lt hc
  have hm := hk.1
  unfold pKd
  split
  · exact ⟨fun e h => (by cases h; omega), fun q h e => (by cases e)⟩
  · obtain ⟨r1, r2⟩ := pIts_gd (X := X) (κ := κ) (n := n) (by omega) (by omega) ((X.2 - pS X p).toNat + 1) (pS X p + 1) 0 (uDf κ n g) (by omega) (by omega) (by omega) ⟨by omega, fun s k q1 q2 q3 q4 => by
      unfold uDf
      split
      · rename_i e
        have : kN κ * s + k - kN κ * n = k := by
          rcases kN_c κ with c | c | c <;> rw [c] at e q4 ⊢ <;> omega
        rw [this]
        exact kDf_b q3 q4
      · rename_i e
        refine hk.2 s k q1 ?_ q3 q4
        rcases kN_c κ with c | c | c <;> rw [c] at e q4 <;> omega⟩
    refine ⟨fun e h => ?_, fun q' h e => ?_⟩
    · have := r1 e h
      omega
    · have := r2 q' h e
      exact ⟨by omega, this.2⟩
theorem pRw_gd {X : zTp} {R : Int} (hR : 0 ≤ R) : ∀ (f : Nat) (p n : Int) (g : Int → Int), 0 ≤ p → p ≤ X.2 → 0 ≤ n → n + f = 7 → (∀ c : Int, 0 ≤ c → c < n → 0 ≤ g (6 * R + c) ∧ g (6 * R + c) ≤ 3) →
    (∀ e, pRw X R f p n g = .error e → p ≤ e ∧ e ≤ X.2) ∧ (∀ q m h, pRw X R f p n g = .ok (q, (m, h)) → p ≤ q ∧ q ≤ X.2 ∧ (1 ≤ m ∧ m ≤ 6) ∧ (∀ c : Int, 0 ≤ c → c < m → 0 ≤ h (6 * R + c) ∧ h (6 * R + c) ≤ 3) ∧ ∀ j : Int, j < 6 * R → h j = g j)
  | 0, p, n, g, h0, h1, h2, h3, h4 => ⟨fun e h => (by cases h; omega), fun q m h e => (by cases e)⟩
  | f + 1, p, n, g, h0, h1, h2, h3, h4 => by
    have hb := pS_b (X := X) p
    unfold pRw
    split
    · rename_i hc
      have hlt := pC_lt (X := X) (p := p) (by omega)
      split
      · exact ⟨fun e h => (by cases h; omega), fun q m h e => (by cases e)⟩
      · obtain ⟨r1, r2⟩ := pRw_gd (X := X) hR f (pS X p + 1) (n + 1) (upf g (6 * R + n) (pC X p - 65)) (by omega) (by omega) (by omega) (by omega) (fun c q1 q2 => by
          unfold upf
          split
          · omega
          · exact h4 c q1 (by omega))
        refine ⟨fun e h => ?_, fun q m h e => ?_⟩
        · have := r1 e h
          omega
        · obtain ⟨a1, a2, a3, a4, a5⟩ := r2 q m h e
          refine ⟨by omega, a2, a3, a4, fun j hj => ?_⟩
          rw [a5 j hj, upf_n (by omega)]
    · split
      · exact ⟨fun e h => (by cases h; omega), fun q m h e => (by cases e)⟩
      · refine ⟨fun e h => (by cases h), fun q m h e => ?_⟩
        cases e
        exact ⟨by omega, by omega, by omega, h4, fun j _ => rfl⟩
theorem pWc_gd {X : zTp} {p : Int} {D : zDf} (h0 : 0 ≤ p) (h1 : p ≤ X.2) (hD : dOk D) :
    (∀ e, pWc X p D = .error e → p ≤ e ∧ e ≤ X.2) ∧ (∀ q E, pWc X p D = .ok (q, E) → p < q ∧ q ≤ X.2 ∧ dOk E) := by
  have hb := pS_b (X := X) p
  obtain ⟨k0, k1, k2, k3, k4⟩ := hD
  unfold pWc
  split
  · obtain ⟨r1, r2⟩ := pKd_gd (X := X) (κ := 0) h0 h1 (by omega) k0
    split
    · rename_i e he
      exact ⟨fun e h => (by cases h; exact r1 _ he), fun q h e => (by cases e)⟩
    · rename_i q g he
      obtain ⟨a1, a2, a3⟩ := r2 q g he
      exact ⟨fun e h => (by cases h), fun q h e => (by cases e; exact ⟨a1, a2, a3, k1, k2, k3, k4⟩)⟩
  · split
    · obtain ⟨r1, r2⟩ := pKd_gd (X := X) (κ := 1) h0 h1 (by omega) k1
      split
      · rename_i e he
        exact ⟨fun e h => (by cases h; exact r1 _ he), fun q h e => (by cases e)⟩
      · rename_i q g he
        obtain ⟨a1, a2, a3⟩ := r2 q g he
        exact ⟨fun e h => (by cases h), fun q h e => (by cases e; exact ⟨a1, a2, k0, a3, k2, k3, k4⟩)⟩
    · split
      · obtain ⟨r1, r2⟩ := pKd_gd (X := X) (κ := 2) h0 h1 (by omega) k2
        split
        · rename_i e he
          exact ⟨fun e h => (by cases h; exact r1 _ he), fun q h e => (by cases e)⟩
        · rename_i q g he
          obtain ⟨a1, a2, a3⟩ := r2 q g he
          exact ⟨fun e h => (by cases h), fun q h e => (by cases e; exact ⟨a1, a2, k0, k1, a3, k3, k4⟩)⟩
      · split
        · have hlt := pC_lt (X := X) (p := p) (by omega)
          split
          · exact ⟨fun e h => (by cases h; omega), fun q h e => (by cases e)⟩
          · obtain ⟨r1, r2⟩ := pRw_gd (X := X) (R := dR D) k3.1 7 (pS X p + 1) 0 (dE D) (by omega) (by omega) (by omega) (by omega) (fun c q1 q2 => by omega)
            split
            · rename_i e he
              have := r1 _ he
              exact ⟨fun e h => (by cases h; omega), fun q h e => (by cases e)⟩
            · rename_i q n g he
              obtain ⟨a1, a2, a3, a4, a5⟩ := r2 q n g he
              refine ⟨fun e h => (by cases h), fun q h e => ?_⟩
              cases e
              refine ⟨by omega, a2, k0, k1, k2, ?_, fun r q1 q2 => ?_⟩
              · show 0 ≤ dR D + 1 ∧ dR D + 1 ≤ 4
                omega
              · show (1 ≤ upf (dW D) (dR D) n r ∧ upf (dW D) (dR D) n r ≤ 6) ∧ ∀ c : Int, 0 ≤ c → c < upf (dW D) (dR D) n r → 0 ≤ g (6 * r + c) ∧ g (6 * r + c) ≤ 3
                have q2 : r < dR D + 1 := q2
                by_cases e : r = dR D
                · rw [e, upf_s]
                  exact ⟨a3, a4⟩
                · rw [upf_n e]
                  obtain ⟨b1, b2⟩ := k4 r q1 (by omega)
                  refine ⟨b1, fun c c1 c2 => ?_⟩
                  rw [a5 _ (by omega)]
                  exact b2 c c1 c2
        · refine ⟨fun e h => ?_, fun q h e => (by cases e)⟩
          cases h
          omega
theorem pWlF_gd {X : zTp} : ∀ (f : Nat) (p : Int) (D : zDf), 0 ≤ p → p ≤ X.2 → X.2 - p < f → dOk D →
    (∀ e, pWlF X f p D = .error e → p ≤ e ∧ e ≤ X.2) ∧ (∀ E, pWlF X f p D = .ok E → dOk E ∧ dSt E = true)
  | 0, p, D, h0, h1, h2, h3 => by omega
  | f + 1, p, D, h0, h1, h2, h3 => by
    obtain ⟨r1, r2⟩ := pWc_gd (X := X) h0 h1 h3
    unfold pWlF
    split
    · rename_i e he
      exact ⟨fun e h => (by cases h; exact r1 _ he), fun q e => (by cases e)⟩
    · rename_i q D' he
      obtain ⟨a1, a2, a3⟩ := r2 q D' he
      have hb := pS_b (X := X) q
      split
      · have hlt := pC_lt (X := X) (p := q) (by omega)
        obtain ⟨s1, s2⟩ := pWlF_gd (X := X) f (pS X q + 1) D' (by omega) (by omega) (by omega) a3
        refine ⟨fun e h => ?_, s2⟩
        have := s1 e h
        omega
      · split
        · rename_i hc
          exact ⟨fun e h => (by cases h), fun E e => (by cases e; exact ⟨a3, hc.2⟩)⟩
        · exact ⟨fun e h => (by cases h; omega), fun E e => (by cases e)⟩
theorem dOk_0 : dOk d0 := by
  refine ⟨⟨by decide, fun s k h1 h2 => ?_⟩, ⟨by decide, fun s k h1 h2 => ?_⟩, ⟨by decide, fun s k h1 h2 => ?_⟩, by decide, fun r h1 h2 => ?_⟩ <;> (change _ < (0 : Int) at h2; omega)
theorem pWl_gd {X : zTp} (h : 0 ≤ X.2) : (∀ e, pWl X = .error e → 0 ≤ e ∧ e ≤ X.2) ∧ (∀ E, pWl X = .ok E → dOk E ∧ dSt E = true) :=
  pWlF_gd _ 0 d0 (by omega) h (by omega) dOk_0
theorem dSt_iff {D : zDf} : dSt D = true ↔ dS D ≠ 0 ∧ dR D ≠ 0 ∧ (∀ r : Int, 0 ≤ r → r < (dR D).toNat → dRow D r = true) ∧ (∀ o : Int, 0 ≤ o → o < (dO D).toNat → dOvn D o = true) := by
  unfold dSt
  simp only [Bool.and_eq_true, decide_eq_true_eq, zal_iff, and_assoc]
theorem dRow_iff {D : zDf} {r : Int} : dRow D r = true ↔ dW D r = dW D 0 ∧ ∀ c : Int, 0 ≤ c → c < (dW D r).toNat → dE D (6 * r + c) < dS D := by
  unfold dRow
  simp only [Bool.and_eq_true, decide_eq_true_eq, zal_iff]
theorem dOvn_iff {D : zDf} {o : Int} : dOvn D o = true ↔ dV D (5 * o) < dR D ∧ dV D (5 * o + 1) < dW D 0 := by
  unfold dOvn
  simp only [Bool.and_eq_true, decide_eq_true_eq]
theorem dWl_ok {D : zDf} (h : dOk D) (hs : dSt D = true) : Wok (dWl D) ∧ Cok (dWl D) (dCo D) ∧ 1 ≤ wR (dWl D) := by
  obtain ⟨k0, k1, k2, k3, k4⟩ := h
  rw [dSt_iff] at hs
  obtain ⟨s1, s2, s3, s4⟩ := hs
  have w0 := (k4 0 (by omega) (by omega)).1
  have n0 := k0.1
  have n1 := k1.1
  have n2 := k2.1
  have m0 : kMx 0 = 4 := rfl
  have m1 : kMx 1 = 3 := rfl
  have m2 : kMx 2 = 5 := rfl
  have hN : dR D * dW D 0 ≤ 4 * 6 := Int.mul_le_mul k3.2 w0.2 (by omega) (by omega)
  have hN1 : 1 * 1 ≤ dR D * dW D 0 := Int.mul_le_mul (by omega) w0.1 (by omega) (by omega)
  have hG : ∀ a : Int, 0 ≤ a → a < dR D * dW D 0 → 0 ≤ wG (dWl D) a ∧ wG (dWl D) a < dS D := by
    intro a h0 h1
    obtain ⟨g1, g2, g3, g4, g5, g6⟩ := gA (C := dW D 0) (R := dR D) (a := a) (by omega) ⟨h0, h1⟩
    have t1 := s3 (a / dW D 0) g1 (by omega)
    rw [dRow_iff] at t1
    have t2 := t1.2 (a % dW D 0) g3 (by omega)
    have t3 := (k4 (a / dW D 0) g1 g2).2 (a % dW D 0) g3 (by omega)
    exact ⟨t3.1, t2⟩
  have hO : ∀ k : Int, 0 ≤ k → k < dO D → (0 ≤ dV D (5 * k) ∧ dV D (5 * k) < dR D) ∧ (0 ≤ dV D (5 * k + 1) ∧ dV D (5 * k + 1) < dW D 0) ∧ (0 ≤ dV D (5 * k + 2) ∧ dV D (5 * k + 2) ≤ 23) ∧ (0 ≤ dV D (5 * k + 3) ∧ dV D (5 * k + 3) ≤ 23) ∧ (0 ≤ dV D (5 * k + 4) ∧ dV D (5 * k + 4) ≤ 20) := by
    intro k h0 h1
    have t1 := s4 k h0 (by omega)
    rw [dOvn_iff] at t1
    have e0 := k1.2 k 0 h0 h1 (by omega) (by decide)
    have e1 := k1.2 k 1 h0 h1 (by omega) (by decide)
    have e2 := k1.2 k 2 h0 h1 (by omega) (by decide)
    have e3 := k1.2 k 3 h0 h1 (by omega) (by decide)
    have e4 := k1.2 k 4 h0 h1 (by omega) (by decide)
    have u : kN 1 = 5 := rfl
    rw [u] at e0 e1 e2 e3 e4
    rw [Int.add_zero] at e0
    exact ⟨⟨e0.1, t1.1⟩, ⟨e1.1, t1.2⟩, e2, e3, e4⟩
  refine ⟨⟨⟨k3.1, k3.2⟩, ⟨by show 0 ≤ dW D 0; omega, w0.2⟩, rfl, ⟨by show 0 ≤ dR D * dW D 0; omega, by show dR D * dW D 0 ≤ 24; omega⟩, fun _ => ⟨w0.1, by show 1 ≤ dS D; omega, by show 1 ≤ dR D * dW D 0; omega⟩, fun q => (s2 q).elim, ⟨n0.1, by show dS D ≤ 4; omega⟩, ⟨n1.1, by show dO D ≤ 3; omega⟩, ⟨n2.1, by show dZ D ≤ 5; omega⟩, fun s h0 h1 => ?_, hO, fun k h0 h1 => ?_, hG⟩, ⟨by show (0 : Int) ≤ 0 ∧ (0 : Int) ≤ 1000000; omega, fun a h0 h1 => ⟨hG a h0 h1, by show (0 : Int) ≤ 0; omega, ?_⟩, fun k h0 h1 => ?_⟩, by show 1 ≤ dR D; omega⟩
  · have e0 := k0.2 s 0 h0 h1 (by omega) (by decide)
    have e1 := k0.2 s 1 h0 h1 (by omega) (by decide)
    have e2 := k0.2 s 2 h0 h1 (by omega) (by decide)
    have u : kN 0 = 3 := rfl
    rw [u] at e0 e1 e2
    rw [Int.add_zero] at e0
    exact ⟨e0, e1, e2⟩
  · have e0 := k2.2 k 0 h0 h1 (by omega) (by decide)
    have e1 := k2.2 k 1 h0 h1 (by omega) (by decide)
    have u : kN 2 = 2 := rfl
    rw [u] at e0 e1
    rw [Int.add_zero] at e0
    exact ⟨e0, e1⟩
  · have g := hG a h0 h1
    have e1 := k0.2 (wG (dWl D) a) 1 g.1 g.2 (by omega) (by decide)
    have u : kN 0 = 3 := rfl
    have u1 : kLo 0 1 = 1 := rfl
    rw [u, u1] at e1
    show 0 ≤ dT D (3 * wG (dWl D) a + 1)
    omega
  · have := hO k h0 h1
    exact ⟨this.2.2.1, this.2.2.2.1⟩
