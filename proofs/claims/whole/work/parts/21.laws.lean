/-! THE PURE PART: laws as tokens, working out, and the readers -/
def sBnd (x : Int) : Int := max (-1000000) (min 1000000 x)
def isLet (k : Int) : Bool := decide (k = 104) || decide (k = 114) || decide (k = 99) || decide (k = 100) || decide (k = 115)
def isCmp (k : Int) : Bool := decide (k = 61) || decide (k = 60) || decide (k = 62)
def isAr (k : Int) : Bool := decide (k = 43) || decide (k = 45) || decide (k = 42) || decide (k = 47)
def isLg (k : Int) : Bool := decide (k = 38) || decide (k = 124)
theorem isLet_iff {k : Int} : isLet k = true ↔ k = 104 ∨ k = 114 ∨ k = 99 ∨ k = 100 ∨ k = 115 := by simp [isLet, Bool.or_eq_true, or_assoc]
theorem isCmp_iff {k : Int} : isCmp k = true ↔ k = 61 ∨ k = 60 ∨ k = 62 := by simp [isCmp, Bool.or_eq_true, or_assoc]
theorem isAr_iff {k : Int} : isAr k = true ↔ k = 43 ∨ k = 45 ∨ k = 42 ∨ k = 47 := by simp [isAr, Bool.or_eq_true, or_assoc]
theorem isLg_iff {k : Int} : isLg k = true ↔ k = 38 ∨ k = 124 := by simp [isLg]
def sJn (k a b : Int) : Int :=
  if k = 43 then sBnd (a + b) else if k = 45 then sBnd (a - b) else if k = 42 then sBnd (a * b)
  else if k = 47 then (if b = 0 then 0 else sBnd (a.tdiv b)) else if k = 61 then (if a = b then 1 else 0)
  else if k = 60 then (if a < b then 1 else 0) else if k = 62 then (if b < a then 1 else 0)
  else if k = 38 then (if a ≠ 0 ∧ b ≠ 0 then 1 else 0) else (if a ≠ 0 ∨ b ≠ 0 then 1 else 0)
/-- one token on the stack, the top first -/
def sTk (le : Int → Int) (t : Int) (s : List Int) : List Int :=
  if 0 ≤ t then t :: s else if isLet (-t) then le (-t) :: s else if t = -33 then (match s with
    | x :: r => (1 - x) :: r
    | [] => []) else (match s with
    | b :: a :: r => sJn (-t) a b :: r
    | r => r)
def sRn (le : Int → Int) : List Int → List Int → List Int
  | [], s => s
  | t :: ts, s => sRn le ts (sTk le t s)
theorem sRn_app {le : Int → Int} : ∀ (a b s : List Int), sRn le (a ++ b) s = sRn le b (sRn le a s)
  | [], _, _ => rfl
  | _ :: a, b, s => sRn_app a b _
/-- types: true for a truth; no more than 80 on the stack -/
def tTk (t : Int) (s : List Bool) : Option (List Bool) :=
  if 0 ≤ t then (if t ≤ 9999 ∧ s.length < 80 then some (false :: s) else none)
  else if isLet (-t) then (if s.length < 80 then some (false :: s) else none)
  else if t = -33 then (match s with
    | true :: r => some (true :: r)
    | _ => none)
  else if isAr (-t) then (match s with
    | false :: false :: r => some (false :: r)
    | _ => none)
  else if isCmp (-t) then (match s with
    | false :: false :: r => some (true :: r)
    | _ => none)
  else if isLg (-t) then (match s with
    | true :: true :: r => some (true :: r)
    | _ => none)
  else none
def tRn : List Int → List Bool → Option (List Bool)
  | [], s => some s
  | t :: ts, s => match tTk t s with
    | some s' => tRn ts s'
    | none => none
theorem tRn_app {a b : List Int} {s s' : List Bool} (h : tRn a s = some s') : tRn (a ++ b) s = tRn b s' := by
  induction a generalizing s with
  | nil => cases h; rfl
  | cons t a ih =>
    unfold tRn at h
    show (match tTk t s with
      | some s' => tRn (a ++ b) s'
      | none => none) = _
    split at h
    · exact ih h
    · cases h
def Tv : List Bool → List Int → Prop
  | [], [] => True
  | b :: t, x :: s => ((b = true → x = 0 ∨ x = 1) ∧ -1000000 ≤ x ∧ x ≤ 1000000) ∧ Tv t s
  | _, _ => False
theorem Tv_len : ∀ {t : List Bool} {s : List Int}, Tv t s → t.length = s.length
  | [], [], _ => rfl
  | _ :: t, _ :: s, h => by
    have := Tv_len h.2
    simp only [List.length_cons, this]
  | [], _ :: _, h => h.elim
  | _ :: _, [], h => h.elim
theorem sBnd_b {x : Int} : -1000000 ≤ sBnd x ∧ sBnd x ≤ 1000000 := by
  unfold sBnd
  omega
theorem sJn_b {k a b : Int} : -1000000 ≤ sJn k a b ∧ sJn k a b ≤ 1000000 := by
  have h1 := sBnd_b (x := a + b)
  have h2 := sBnd_b (x := a - b)
  have h3 := sBnd_b (x := a * b)
  have h4 := sBnd_b (x := a.tdiv b)
  unfold sJn
  repeat' split
  all_goals omega
theorem sJn_t {k a b : Int} (h : isCmp k = true ∨ isLg k = true) : sJn k a b = 0 ∨ sJn k a b = 1 := by
  rw [isCmp_iff, isLg_iff] at h
  unfold sJn
  repeat' split
  all_goals omega
/-- where a token may stand it keeps to the types -/
theorem Tv_tk {le : Int → Int} {t : Int} {τ τ' : List Bool} {s : List Int} (hl : ∀ k : Int, 0 ≤ le k ∧ le k ≤ 1000000) (ht : tTk t τ = some τ') (h : Tv τ s) : Tv τ' (sTk le t s) := by
  unfold tTk at ht
  unfold sTk
  split at ht
  · rename_i h0
    rw [if_pos h0]
    split at ht
    · cases ht
      exact ⟨⟨fun q => (by cases q), by omega, by omega⟩, h⟩
    · cases ht
  · rename_i h0
    rw [if_neg h0]
    split at ht
    · rename_i h1
      rw [if_pos h1]
      split at ht
      · cases ht
        have := hl (-t)
        exact ⟨⟨fun q => (by cases q), by omega, by omega⟩, h⟩
      · cases ht
    · rename_i h1
      rw [if_neg h1]
      split at ht
      · rename_i h2
        rw [if_pos h2]
        match τ, s, h with
        | true :: r, x :: s, h =>
          cases ht
          obtain ⟨⟨q1, q2⟩, q3⟩ := h
          have := q1 rfl
          exact ⟨⟨fun _ => by omega, by omega, by omega⟩, q3⟩
        | false :: r, x :: s, h => cases ht
        | [], [], h => cases ht
      · rename_i h2
        rw [if_neg h2]
        split at ht
        · match τ, s, h with
          | false :: false :: r, x :: y :: s, h =>
            cases ht
            exact ⟨⟨fun q => (by cases q), sJn_b⟩, h.2.2⟩
          | true :: _, _, h => cases ht
          | false :: true :: _, _, h => cases ht
          | [false], _, h => cases ht
          | [], _, h => cases ht
        · split at ht
          · rename_i h3
            match τ, s, h with
            | false :: false :: r, x :: y :: s, h =>
              cases ht
              exact ⟨⟨fun q => sJn_t (Or.inl h3), sJn_b⟩, h.2.2⟩
            | true :: _, _, h => cases ht
            | false :: true :: _, _, h => cases ht
            | [false], _, h => cases ht
            | [], _, h => cases ht
          · split at ht
            · rename_i h3
              match τ, s, h with
              | true :: true :: r, x :: y :: s, h =>
                cases ht
                exact ⟨⟨fun q => sJn_t (Or.inr h3), sJn_b⟩, h.2.2⟩
              | false :: _, _, h => cases ht
              | true :: false :: _, _, h => cases ht
              | [true], _, h => cases ht
              | [], _, h => cases ht
            · cases ht
theorem Tv_rn {le : Int → Int} (hl : ∀ k : Int, 0 ≤ le k ∧ le k ≤ 1000000) : ∀ (ts : List Int) {τ τ' : List Bool} {s : List Int}, tRn ts τ = some τ' → Tv τ s → Tv τ' (sRn le ts s)
  | [], _, _, _, ht, h => by cases ht; exact h
  | t :: ts, τ, τ', s, ht, h => by
    unfold tRn at ht
    split at ht
    · rename_i s1 e
      exact Tv_rn hl ts ht (Tv_tk hl e h)
    · cases ht
/-- a law: clauses, of each its condition's tokens (none: no condition) and its sum's -/
abbrev zLw : Type := List (List Int × List Int)
def sTop (le : Int → Int) (ts : List Int) : Int := (sRn le ts []).headD 0
def sWo (le : Int → Int) : zLw → Int
  | [] => 0
  | (t, s) :: r => if t = [] ∨ sTop le t ≠ 0 then sTop le s else sWo le r
def cTy (c : List Int × List Int) : Prop := (c.1 = [] ∨ tRn c.1 [] = some [true]) ∧ tRn c.2 [] = some [false]
def lTy (P : zLw) : Prop := ∀ c ∈ P, cTy c
/-- as the class keeps it: one row of tokens -/
def cFl (c : List Int × List Int) : List Int := (if c.1 = [] then [] else c.1 ++ [-63]) ++ c.2 ++ [-59]
def lFl : zLw → List Int
  | [] => []
  | c :: r => cFl c ++ lFl r
-- the readers: a tape T of n bytes, places
abbrev zTp : Type := (Int → Int) × Int
def pSf (X : zTp) : Nat → Int → Int
  | 0, p => p
  | f + 1, p => if p < X.2 ∧ X.1 p = 32 then pSf X f (p + 1) else p
/-- behind blanks -/
def pS (X : zTp) (p : Int) : Int := pSf X (X.2 - p).toNat p
theorem pS_go {X : zTp} {p : Int} (h : p < X.2 ∧ X.1 p = 32) : pS X p = pS X (p + 1) := by
  unfold pS
  have e : (X.2 - p).toNat = (X.2 - (p + 1)).toNat + 1 := by omega
  rw [e]
  show (if p < X.2 ∧ X.1 p = 32 then _ else _) = _
  rw [if_pos h]
theorem pS_st {X : zTp} {p : Int} (h : ¬ (p < X.2 ∧ X.1 p = 32)) : pS X p = p := by
  unfold pS
  cases (X.2 - p).toNat with
  | zero => rfl
  | succ f =>
    show (if p < X.2 ∧ X.1 p = 32 then _ else _) = _
    rw [if_neg h]
theorem pSf_b {X : zTp} : ∀ (f : Nat) (p : Int), p ≤ pSf X f p ∧ (p ≤ X.2 → pSf X f p ≤ X.2)
  | 0, p => by simp [pSf]
  | f + 1, p => by
    show p ≤ (if p < X.2 ∧ X.1 p = 32 then _ else _) ∧ (p ≤ X.2 → (if p < X.2 ∧ X.1 p = 32 then _ else _) ≤ X.2)
    have := pSf_b (X := X) f (p + 1)
    split
    · exact ⟨by omega, fun h => by omega⟩
    · exact ⟨by omega, fun h => by omega⟩
theorem pS_b {X : zTp} (p : Int) : p ≤ pS X p ∧ (p ≤ X.2 → pS X p ≤ X.2) := pSf_b _ p
theorem pSf_n {X : zTp} : ∀ (f : Nat) (p : Int), X.2 - p ≤ f → ¬ (pSf X f p < X.2 ∧ X.1 (pSf X f p) = 32)
  | 0, p, h => by
    show ¬ (p < X.2 ∧ _)
    omega
  | f + 1, p, h => by
    by_cases q : p < X.2 ∧ X.1 p = 32
    · have e : pSf X (f + 1) p = pSf X f (p + 1) := if_pos q
      rw [e]
      exact pSf_n f (p + 1) (by omega)
    · have e : pSf X (f + 1) p = p := if_neg q
      rw [e]
      exact q
theorem pS_i {X : zTp} {p : Int} : pS X (pS X p) = pS X p := pS_st (pSf_n _ p (by omega))
/-- the sign there -/
def pC (X : zTp) (p : Int) : Int := if pS X p < X.2 then X.1 (pS X p) else -1
theorem pC_i {X : zTp} {p : Int} : pC X (pS X p) = pC X p := by
  unfold pC
  rw [pS_i]
/-- a tape's bytes are no zeros -/
def tOk (X : zTp) : Prop := (0 ≤ X.2 ∧ X.2 ≤ 160) ∧ ∀ j : Int, 0 ≤ j → j < X.2 → 1 ≤ X.1 j ∧ X.1 j ≤ 255
theorem pC_lt {X : zTp} {p : Int} (h : 0 ≤ pC X p) : pS X p < X.2 := by
  unfold pC at h
  split at h
  · assumption
  · omega
theorem pC_end {X : zTp} {p : Int} (ht : tOk X) (h0 : 0 ≤ p) (hp : p ≤ X.2) (h : pC X p = -1) : pS X p = X.2 := by
  have hb := pS_b (X := X) p
  unfold pC at h
  split at h
  · have := ht.2 (pS X p) (by omega) (by omega)
    omega
  · omega
abbrev zPx (α : Type) : Type := Except Int (Int × α)
def pDi (X : zTp) (q : Int) : Bool := decide (q < X.2) && decide (48 ≤ X.1 q) && decide (X.1 q ≤ 57)
theorem pDi_iff {X : zTp} {q : Int} : pDi X q = true ↔ q < X.2 ∧ 48 ≤ X.1 q ∧ X.1 q ≤ 57 := by simp [pDi, Bool.and_eq_true, and_assoc]
def pDg (X : zTp) : Nat → Int → Int → zPx Int
  | 0, q, x => if pDi X q then .error q else .ok (q, x)
  | m + 1, q, x => if pDi X q then pDg X m (q + 1) (x * 10 + X.1 q - 48) else .ok (q, x)
def pNm (X : zTp) (m : Nat) (p : Int) : zPx Int := if pDi X (pS X p) then pDg X m (pS X p) 0 else .error (pS X p)
abbrev zPs : Type := Int → zPx (List Int)
def pStar (X : zTp) (sep : Int → Bool) (item : zPs) : Nat → Int → List Int → zPx (List Int)
  | 0, p, _ => .error p
  | f + 1, p, acc => if sep (pC X p) then (match item (pS X p + 1) with
    | .error e => .error e
    | .ok (q, t) => pStar X sep item f q (acc ++ t ++ [-(pC X p)])) else .ok (pS X p, acc)
def pTl (X : zTp) (sep : Int → Bool) (item : zPs) (q : Int) (acc : List Int) : zPx (List Int) := pStar X sep item ((X.2 - q).toNat + 1) q acc
def pSep (X : zTp) (sep : Int → Bool) (item : zPs) : zPs := fun p => match item p with
  | .error e => .error e
  | .ok (q, t) => pTl X sep item q t
def isTm (k : Int) : Bool := decide (k = 42) || decide (k = 47)
def isPm (k : Int) : Bool := decide (k = 43) || decide (k = 45)
def pAtom (X : zTp) (br : Option zPs) : zPs := fun p =>
  if pC X p = 91 then (match br with
    | none => .error (pS X p)
    | some sub => match sub (pS X p + 1) with
      | .error e => .error e
      | .ok (q, t) => if pC X q = 93 then .ok (pS X q + 1, t) else .error (pS X q))
  else if isLet (pC X p) then .ok (pS X p + 1, [-(pC X p)])
  else match pNm X 4 (pS X p) with
    | .error e => .error e
    | .ok (q, x) => .ok (q, [x])
def pTerm (X : zTp) (br : Option zPs) : zPs := pSep X isTm (pAtom X br)
def pSum (X : zTp) (br : Option zPs) : zPs := pSep X isPm (pTerm X br)
def pBr (X : zTp) : Nat → Option zPs
  | 0 => none
  | k + 1 => some (pSum X (pBr X k))
def pSumL (X : zTp) (k : Nat) : zPs := pSum X (pBr X k)
def pCmp (X : zTp) (s : zPs) (q : Int) (t : List Int) : zPx (List Int) :=
  if isCmp (pC X q) then (match s (pS X q + 1) with
    | .error e => .error e
    | .ok (r, u) => .ok (r, t ++ u ++ [-(pC X q)])) else .error (pS X q)
def isAnd (k : Int) : Bool := decide (k = 38)
def isOr (k : Int) : Bool := decide (k = 124)
def pTruth (X : zTp) (u : zPs) : zPs := pSep X isAnd u
def pCond (X : zTp) (u : zPs) : zPs := pSep X isOr (pTruth X u)
def pUnit (X : zTp) (s : zPs) (u : Option zPs) : zPs := fun p =>
  if pC X p = 33 then (match u with
    | none => .error (pS X p)
    | some u => match u (pS X p + 1) with
      | .error e => .error e
      | .ok (q, t) => .ok (q, t ++ [-33]))
  else if pC X p = 40 then (match u with
    | none => .error (pS X p)
    | some u => match pCond X u (pS X p + 1) with
      | .error e => .error e
      | .ok (q, t) => if pC X q = 41 then .ok (pS X q + 1, t) else .error (pS X q))
  else match s (pS X p) with
    | .error e => .error e
    | .ok (q, t) => pCmp X s q t
def pUc (X : zTp) : Nat → zPs
  | 0 => pUnit X (pSumL X 0) none
  | k + 1 => pUnit X (pSumL X (k + 1)) (some (pUc X k))
abbrev zCl : Type := List Int × List Int
def pQu (X : zTp) (q : Int) (t : List Int) : zPx zCl :=
  if pC X q = 63 then (match pSumL X 6 (pS X q + 1) with
    | .error e => .error e
    | .ok (r, s) => .ok (r, (t, s))) else .error (pS X q)
/-- behind y and : -/
def pBody (X : zTp) (p : Int) : zPx zCl :=
  if pC X p = 33 ∨ pC X p = 40 then (match pCond X (pUc X 6) (pS X p) with
    | .error e => .error e
    | .ok (q, t) => pQu X q t)
  else match pSumL X 6 (pS X p) with
    | .error e => .error e
    | .ok (q, t) => if isCmp (pC X q) then (match pCmp X (pSumL X 6) q t with
      | .error e => .error e
      | .ok (r, t1) => match pTl X isAnd (pUc X 6) r t1 with
        | .error e => .error e
        | .ok (r2, t2) => match pTl X isOr (pTruth X (pUc X 6)) r2 t2 with
          | .error e => .error e
          | .ok (r3, t3) => pQu X r3 t3) else .ok (pS X q, ([], t))
def pClau (X : zTp) (p : Int) : zPx zCl :=
  if pC X p = 121 then (if pC X (pS X p + 1) = 58 then pBody X (pS X (pS X p + 1) + 1) else .error (pS X (pS X p + 1))) else .error (pS X p)
def pLawF (X : zTp) : Nat → Int → zLw → Except Int zLw
  | 0, p, _ => .error p
  | f + 1, p, acc => match pClau X p with
    | .error e => .error e
    | .ok (q, c) => if pC X q = 59 then pLawF X f (pS X q + 1) (acc ++ [c]) else if pC X q = -1 then .ok (acc ++ [c]) else .error (pS X q)
def pLaw (X : zTp) : Except Int zLw := pLawF X (X.2.toNat + 1) 0 []
/-- what a reader of tokens keeps -/
def pGd (X : zTp) (item : zPs) (b : Bool) : Prop := ∀ p : Int, 0 ≤ p → p ≤ X.2 →
  (∀ e, item p = .error e → p ≤ e ∧ e ≤ X.2) ∧
  (∀ q t, item p = .ok (q, t) → p < q ∧ q ≤ X.2 ∧ (t.length : Int) ≤ q - p ∧ ∀ τ : List Bool, (τ.length : Int) + (q - p + 1) / 2 ≤ 80 → tRn t τ = some (b :: τ))
theorem pDg_b {X : zTp} : ∀ (m : Nat) (q x : Int), q ≤ X.2 → 0 ≤ x →
    (∀ e, pDg X m q x = .error e → q ≤ e ∧ e ≤ X.2) ∧ (∀ r y, pDg X m q x = .ok (r, y) → q ≤ r ∧ r ≤ X.2 ∧ r ≤ q + m ∧ 0 ≤ y ∧ y + 1 ≤ (x + 1) * 10 ^ (r - q).toNat)
  | 0, q, x, hq, hx => by
    unfold pDg
    split
    · exact ⟨fun e h => by cases h; omega, fun r y h => by cases h⟩
    · refine ⟨fun e h => (by cases h), fun r y h => ?_⟩
      cases h
      simp
      omega
  | m + 1, q, x, hq, hx => by
    unfold pDg
    split
    · rename_i h
      rw [pDi_iff] at h
      obtain ⟨h1, h2⟩ := pDg_b (X := X) m (q + 1) (x * 10 + X.1 q - 48) (by omega) (by omega)
      refine ⟨fun e h => ?_, fun r y h => ?_⟩
      · have := h1 e h
        omega
      · obtain ⟨g1, g2, g3, g4, g5⟩ := h2 r y h
        refine ⟨by omega, g2, by omega, g4, ?_⟩
        have e : (r - q).toNat = (r - (q + 1)).toNat + 1 := by omega
        rw [e, Int.pow_succ]
        have hp : 0 ≤ (10 : Int) ^ (r - (q + 1)).toNat := Int.le_of_lt (Int.pow_pos (by omega))
        have h3 : (x * 10 + X.1 q - 48 + 1) * 10 ^ (r - (q + 1)).toNat ≤ ((x + 1) * 10) * 10 ^ (r - (q + 1)).toNat := Int.mul_le_mul_of_nonneg_right (by omega) hp
        have h4 : ((x + 1) * 10) * 10 ^ (r - (q + 1)).toNat = (x + 1) * (10 ^ (r - (q + 1)).toNat * 10) := by
          rw [Int.mul_assoc, Int.mul_comm 10]
        omega
    · refine ⟨fun e h => (by cases h), fun r y h => ?_⟩
      cases h
      simp
      omega
theorem pNm_b {X : zTp} {m : Nat} {p : Int} (hm : 1 ≤ m) (hp : p ≤ X.2) : (∀ e, pNm X m p = .error e → p ≤ e ∧ e ≤ X.2) ∧ (∀ r y, pNm X m p = .ok (r, y) → p < r ∧ r ≤ X.2 ∧ 0 ≤ y ∧ y < 10 ^ m) := by
  have hb := pS_b (X := X) p
  unfold pNm
  split
  · rename_i h
    rw [pDi_iff] at h
    obtain ⟨m, rfl⟩ : ∃ k, m = k + 1 := ⟨m - 1, by omega⟩
    have hd : pDi X (pS X p) = true := pDi_iff.mpr h
    have e0 : pDg X (m + 1) (pS X p) 0 = pDg X m (pS X p + 1) (0 * 10 + X.1 (pS X p) - 48) := if_pos hd
    obtain ⟨h1, h2⟩ := pDg_b (X := X) m (pS X p + 1) (0 * 10 + X.1 (pS X p) - 48) (by omega) (by omega)
    rw [e0]
    refine ⟨fun e h => ?_, fun r y h => ?_⟩
    · have := h1 e h
      omega
    · obtain ⟨g1, g2, g3, g4, g5⟩ := h2 r y h
      refine ⟨by omega, g2, g4, ?_⟩
      have hpw : (10 : Int) ^ (r - (pS X p + 1)).toNat ≤ 10 ^ m := by
        have := Nat.pow_le_pow_right (n := 10) (by omega) (show (r - (pS X p + 1)).toNat ≤ m by omega)
        exact_mod_cast this
      have h3 : (0 * 10 + X.1 (pS X p) - 48 + 1) * 10 ^ (r - (pS X p + 1)).toNat ≤ 10 * 10 ^ m := Int.mul_le_mul (by omega) hpw (Int.le_of_lt (Int.pow_pos (by omega))) (by omega)
      have h4 : (10 : Int) ^ (m + 1) = 10 * 10 ^ m := by rw [Int.pow_succ, Int.mul_comm]
      omega
  · exact ⟨fun e h => by cases h; omega, fun r y h => by cases h⟩
theorem tRn_1 {t : Int} {s s' : List Bool} (h : tTk t s = some s') : tRn [t] s = some s' := by
  unfold tRn
  rw [h]
  rfl
theorem tTk_num {x : Int} {τ : List Bool} (h0 : 0 ≤ x) (h1 : x ≤ 9999) (h2 : τ.length < 80) : tTk x τ = some (false :: τ) := by
  unfold tTk
  rw [if_pos h0, if_pos ⟨h1, h2⟩]
theorem tTk_let {k : Int} {τ : List Bool} (h : isLet k = true) (h2 : τ.length < 80) : tTk (-k) τ = some (false :: τ) := by
  have h' := isLet_iff.mp h
  unfold tTk
  rw [if_neg (by omega), Int.neg_neg, if_pos h, if_pos h2]
theorem tTk_ar {k : Int} {τ : List Bool} (h : isAr k = true) : tTk (-k) (false :: false :: τ) = some (false :: τ) := by
  have h' := isAr_iff.mp h
  have n1 : isLet k = false := by rw [← Bool.not_eq_true, isLet_iff]; omega
  unfold tTk
  rw [if_neg (by omega), Int.neg_neg, n1, if_neg (by simp), if_neg (by omega), if_pos h]
theorem tTk_cmp {k : Int} {τ : List Bool} (h : isCmp k = true) : tTk (-k) (false :: false :: τ) = some (true :: τ) := by
  have h' := isCmp_iff.mp h
  have n1 : isLet k = false := by rw [← Bool.not_eq_true, isLet_iff]; omega
  have n2 : isAr k = false := by rw [← Bool.not_eq_true, isAr_iff]; omega
  unfold tTk
  rw [if_neg (by omega), Int.neg_neg, n1, n2, if_neg (by simp), if_neg (by omega), if_neg (by simp), if_pos h]
theorem tTk_lg {k : Int} {τ : List Bool} (h : isLg k = true) : tTk (-k) (true :: true :: τ) = some (true :: τ) := by
  have h' := isLg_iff.mp h
  have n1 : isLet k = false := by rw [← Bool.not_eq_true, isLet_iff]; omega
  have n2 : isAr k = false := by rw [← Bool.not_eq_true, isAr_iff]; omega
  have n3 : isCmp k = false := by rw [← Bool.not_eq_true, isCmp_iff]; omega
  unfold tTk
  rw [if_neg (by omega), Int.neg_neg, n1, n2, n3, if_neg (by simp), if_neg (by omega), if_neg (by simp), if_neg (by simp), if_pos h]
theorem tTk_not {τ : List Bool} : tTk (-33) (true :: τ) = some (true :: τ) := rfl
/-- a tail keeps what its items keep -/
theorem pStar_gd {X : zTp} {sep : Int → Bool} {item : zPs} {b : Bool} {p0 : Int} (hs : ∀ k : Int, sep k = true → 0 ≤ k ∧ ∀ τ : List Bool, tTk (-k) (b :: b :: τ) = some (b :: τ)) (hi : pGd X item b) : ∀ (f : Nat) (p : Int) (acc : List Int), 0 ≤ p0 → p0 < p → p ≤ X.2 → X.2 - p < f → (acc.length : Int) ≤ p - p0 → (∀ τ : List Bool, (τ.length : Int) + (p - p0 + 1) / 2 ≤ 80 → tRn acc τ = some (b :: τ)) →
    (∀ e, pStar X sep item f p acc = .error e → p ≤ e ∧ e ≤ X.2) ∧
    (∀ q t, pStar X sep item f p acc = .ok (q, t) → p ≤ q ∧ q ≤ X.2 ∧ (t.length : Int) ≤ q - p0 ∧ ∀ τ : List Bool, (τ.length : Int) + (q - p0 + 1) / 2 ≤ 80 → tRn t τ = some (b :: τ))
  | 0, p, acc, h0, h1, h2, h3, h4, h5 => by omega
  | f + 1, p, acc, h0, h1, h2, h3, h4, h5 => by
    have hb := pS_b (X := X) p
    unfold pStar
    split
    · rename_i hk
      obtain ⟨k0, k1⟩ := hs _ hk
      have hlt := pC_lt k0
      obtain ⟨i1, i2⟩ := hi (pS X p + 1) (by omega) (by omega)
      split
      · rename_i e he
        have := i1 e he
        exact ⟨fun e' h => by cases h; omega, fun q t h => by cases h⟩
      · rename_i q t he
        obtain ⟨g1, g2, g3, g4⟩ := i2 q t he
        obtain ⟨r1, r2⟩ := pStar_gd hs hi f q (acc ++ t ++ [-(pC X p)]) h0 (by omega) g2 (by omega) (by simp; omega) (fun τ hτ => by
          rw [List.append_assoc, tRn_app (h5 τ (by omega)), tRn_app (g4 (b :: τ) (by simp; omega))]
          exact tRn_1 (k1 τ))
        refine ⟨fun e h => ?_, fun q' t' h => ?_⟩
        · have := r1 e h
          omega
        · have := r2 q' t' h
          exact ⟨by omega, this.2⟩
    · refine ⟨fun e h => (by cases h), fun q t h => ?_⟩
      cases h
      exact ⟨by omega, by omega, by omega, fun τ hτ => h5 τ (by omega)⟩
theorem pTl_gd {X : zTp} {sep : Int → Bool} {item : zPs} {b : Bool} {p0 : Int} (hs : ∀ k : Int, sep k = true → 0 ≤ k ∧ ∀ τ : List Bool, tTk (-k) (b :: b :: τ) = some (b :: τ)) (hi : pGd X item b) (p : Int) (acc : List Int) (h0 : 0 ≤ p0) (h1 : p0 < p) (h2 : p ≤ X.2) (h4 : (acc.length : Int) ≤ p - p0) (h5 : ∀ τ : List Bool, (τ.length : Int) + (p - p0 + 1) / 2 ≤ 80 → tRn acc τ = some (b :: τ)) :
    (∀ e, pTl X sep item p acc = .error e → p ≤ e ∧ e ≤ X.2) ∧
    (∀ q t, pTl X sep item p acc = .ok (q, t) → p ≤ q ∧ q ≤ X.2 ∧ (t.length : Int) ≤ q - p0 ∧ ∀ τ : List Bool, (τ.length : Int) + (q - p0 + 1) / 2 ≤ 80 → tRn t τ = some (b :: τ)) :=
  pStar_gd hs hi _ p acc h0 h1 h2 (by omega) h4 h5
theorem pSep_gd {X : zTp} {sep : Int → Bool} {item : zPs} {b : Bool} (hs : ∀ k : Int, sep k = true → 0 ≤ k ∧ ∀ τ : List Bool, tTk (-k) (b :: b :: τ) = some (b :: τ)) (hi : pGd X item b) : pGd X (pSep X sep item) b := by
  intro p h0 h1
  obtain ⟨i1, i2⟩ := hi p h0 h1
  unfold pSep
  split
  · rename_i e he
    have := i1 e he
    exact ⟨fun e' h => by cases h; omega, fun q t h => by cases h⟩
  · rename_i q t he
    obtain ⟨g1, g2, g3, g4⟩ := i2 q t he
    obtain ⟨r1, r2⟩ := pTl_gd hs hi q t h0 g1 g2 g3 g4
    refine ⟨fun e h => ?_, fun q' t' h => ?_⟩
    · have := r1 e h
      omega
    · have := r2 q' t' h
      exact ⟨by omega, this.2⟩
theorem pAtom_gd {X : zTp} {br : Option zPs} (hb : ∀ s, br = some s → pGd X s false) : pGd X (pAtom X br) false := by
  intro p h0 h1
  have hp := pS_b (X := X) p
  unfold pAtom
  split
  · rename_i hk
    have hlt := pC_lt (X := X) (p := p) (by omega)
    split
    · exact ⟨fun e' h => by cases h; omega, fun q t h => by cases h⟩
    · rename_i sub
      obtain ⟨i1, i2⟩ := hb sub rfl (pS X p + 1) (by omega) (by omega)
      split
      · rename_i e he
        have := i1 e he
        exact ⟨fun e' h => by cases h; omega, fun q t h => by cases h⟩
      · rename_i q t he
        obtain ⟨g1, g2, g3, g4⟩ := i2 q t he
        have hq := pS_b (X := X) q
        split
        · rename_i hk2
          have hlt2 := pC_lt (X := X) (p := q) (by omega)
          refine ⟨fun e h => (by cases h), fun q' t' h => ?_⟩
          cases h
          exact ⟨by omega, by omega, by omega, fun τ hτ => g4 τ (by omega)⟩
        · exact ⟨fun e' h => by cases h; omega, fun q t h => by cases h⟩
  · split
    · rename_i hk
      have hk' := isLet_iff.mp hk
      have hlt := pC_lt (X := X) (p := p) (by omega)
      refine ⟨fun e h => (by cases h), fun q' t' h => ?_⟩
      cases h
      exact ⟨by omega, by omega, by simp; omega, fun τ hτ => tRn_1 (tTk_let hk (by omega))⟩
    · obtain ⟨n1, n2⟩ := pNm_b (X := X) (m := 4) (p := pS X p) (by omega) (by omega)
      split
      · rename_i e he
        have := n1 e he
        exact ⟨fun e' h => by cases h; omega, fun q t h => by cases h⟩
      · rename_i q x he
        have := n2 q x he
        refine ⟨fun e h => (by cases h), fun q' t' h => ?_⟩
        cases h
        exact ⟨by omega, by omega, by simp; omega, fun τ hτ => tRn_1 (tTk_num (by omega) (by omega) (by omega))⟩
theorem sep_tm {k : Int} (h : isTm k = true) : 0 ≤ k ∧ ∀ τ : List Bool, tTk (-k) (false :: false :: τ) = some (false :: τ) := by
  have h' : k = 42 ∨ k = 47 := by simpa [isTm] using h
  exact ⟨by omega, fun τ => tTk_ar (isAr_iff.mpr (by omega))⟩
theorem sep_pm {k : Int} (h : isPm k = true) : 0 ≤ k ∧ ∀ τ : List Bool, tTk (-k) (false :: false :: τ) = some (false :: τ) := by
  have h' : k = 43 ∨ k = 45 := by simpa [isPm] using h
  exact ⟨by omega, fun τ => tTk_ar (isAr_iff.mpr (by omega))⟩
theorem sep_and {k : Int} (h : isAnd k = true) : 0 ≤ k ∧ ∀ τ : List Bool, tTk (-k) (true :: true :: τ) = some (true :: τ) := by
  have h' : k = 38 := by simpa [isAnd] using h
  exact ⟨by omega, fun τ => tTk_lg (isLg_iff.mpr (by omega))⟩
theorem sep_or {k : Int} (h : isOr k = true) : 0 ≤ k ∧ ∀ τ : List Bool, tTk (-k) (true :: true :: τ) = some (true :: τ) := by
  have h' : k = 124 := by simpa [isOr] using h
  exact ⟨by omega, fun τ => tTk_lg (isLg_iff.mpr (by omega))⟩
theorem pSum_gd {X : zTp} {br : Option zPs} (hb : ∀ s, br = some s → pGd X s false) : pGd X (pSum X br) false :=
  pSep_gd (fun _ h => sep_pm h) (pSep_gd (fun _ h => sep_tm h) (pAtom_gd hb))
theorem pBr_gd {X : zTp} : ∀ (k : Nat) (s : zPs), pBr X k = some s → pGd X s false
  | 0, s, h => by cases h
  | k + 1, s, h => by
    cases h
    exact pSum_gd (pBr_gd k)
theorem pSumL_gd {X : zTp} {k : Nat} : pGd X (pSumL X k) false := pSum_gd (pBr_gd k)
theorem pCmp_gd {X : zTp} {s : zPs} {p0 q : Int} {t : List Int} (hs : pGd X s false) (h0 : 0 ≤ p0) (h1 : p0 < q) (h2 : q ≤ X.2) (h4 : (t.length : Int) ≤ q - p0) (h5 : ∀ τ : List Bool, (τ.length : Int) + (q - p0 + 1) / 2 ≤ 80 → tRn t τ = some (false :: τ)) :
    (∀ e, pCmp X s q t = .error e → q ≤ e ∧ e ≤ X.2) ∧
    (∀ r u, pCmp X s q t = .ok (r, u) → q < r ∧ r ≤ X.2 ∧ (u.length : Int) ≤ r - p0 ∧ ∀ τ : List Bool, (τ.length : Int) + (r - p0 + 1) / 2 ≤ 80 → tRn u τ = some (true :: τ)) := by
  have hb := pS_b (X := X) q
  unfold pCmp
  split
  · rename_i hk
    have hk' := isCmp_iff.mp hk
    have hlt := pC_lt (X := X) (p := q) (by omega)
    obtain ⟨i1, i2⟩ := hs (pS X q + 1) (by omega) (by omega)
    split
    · rename_i e he
      have := i1 e he
      exact ⟨fun e' h => by cases h; omega, fun q t h => by cases h⟩
    · rename_i r u he
      obtain ⟨g1, g2, g3, g4⟩ := i2 r u he
      refine ⟨fun e h => (by cases h), fun q' t' h => ?_⟩
      cases h
      refine ⟨by omega, by omega, by simp; omega, fun τ hτ => ?_⟩
      rw [List.append_assoc, tRn_app (h5 τ (by omega)), tRn_app (g4 (false :: τ) (by simp; omega))]
      exact tRn_1 (tTk_cmp hk)
  · exact ⟨fun e' h => by cases h; omega, fun q t h => by cases h⟩
theorem pCond_gd {X : zTp} {u : zPs} (hu : pGd X u true) : pGd X (pCond X u) true :=
  pSep_gd (fun _ h => sep_or h) (pSep_gd (fun _ h => sep_and h) hu)
theorem pUnit_gd {X : zTp} {s : zPs} {u : Option zPs} (hs : pGd X s false) (hu : ∀ w, u = some w → pGd X w true) : pGd X (pUnit X s u) true := by
  intro p h0 h1
  have hp := pS_b (X := X) p
  unfold pUnit
  split
  · rename_i hk
    have hlt := pC_lt (X := X) (p := p) (by omega)
    split
    · exact ⟨fun e' h => by cases h; omega, fun q t h => by cases h⟩
    · rename_i sub
      obtain ⟨i1, i2⟩ := hu sub rfl (pS X p + 1) (by omega) (by omega)
      split
      · rename_i e he
        have := i1 e he
        exact ⟨fun e' h => by cases h; omega, fun q t h => by cases h⟩
      · rename_i q t he
        obtain ⟨g1, g2, g3, g4⟩ := i2 q t he
        refine ⟨fun e h => (by cases h), fun q' t' h => ?_⟩
        cases h
        refine ⟨by omega, by omega, by simp; omega, fun τ hτ => ?_⟩
        rw [tRn_app (g4 τ (by omega))]
        exact tRn_1 tTk_not
  · split
    · rename_i hk
      have hlt := pC_lt (X := X) (p := p) (by omega)
      split
      · exact ⟨fun e' h => by cases h; omega, fun q t h => by cases h⟩
      · rename_i sub
        obtain ⟨i1, i2⟩ := pCond_gd (hu sub rfl) (pS X p + 1) (by omega) (by omega)
        split
        · rename_i e he
          have := i1 e he
          exact ⟨fun e' h => by cases h; omega, fun q t h => by cases h⟩
        · rename_i q t he
          obtain ⟨g1, g2, g3, g4⟩ := i2 q t he
          have hq := pS_b (X := X) q
          split
          · rename_i hk2
            have hlt2 := pC_lt (X := X) (p := q) (by omega)
            refine ⟨fun e h => (by cases h), fun q' t' h => ?_⟩
            cases h
            exact ⟨by omega, by omega, by omega, fun τ hτ => g4 τ (by omega)⟩
          · exact ⟨fun e' h => by cases h; omega, fun q t h => by cases h⟩
    · obtain ⟨i1, i2⟩ := hs (pS X p) (by omega) (by omega)
      split
      · rename_i e he
        have := i1 e he
        exact ⟨fun e' h => by cases h; omega, fun q t h => by cases h⟩
      · rename_i q t he
        obtain ⟨g1, g2, g3, g4⟩ := i2 q t he
        obtain ⟨r1, r2⟩ := pCmp_gd (X := X) (s := s) (p0 := p) (q := q) (t := t) hs h0 (by omega) g2 (by omega) (fun τ hτ => g4 τ (by omega))
        refine ⟨fun e h => ?_, fun q' t' h => ?_⟩
        · have := r1 e h
          omega
        · have := r2 q' t' h
          exact ⟨by omega, this.2⟩
theorem pUc_gd {X : zTp} : ∀ k : Nat, pGd X (pUc X k) true
  | 0 => pUnit_gd pSumL_gd (fun w h => by cases h)
  | k + 1 => pUnit_gd pSumL_gd (fun w h => by cases h; exact pUc_gd k)
/-- what a clause's reader keeps: the fault within the tape; tokens and the two signs behind them no more than its bytes; types -/
def cGd (X : zTp) (p k : Int) (x : zPx zCl) : Prop :=
  (∀ e, x = .error e → p ≤ e ∧ e ≤ X.2) ∧ (∀ q c, x = .ok (q, c) → p < q ∧ q ≤ X.2 ∧ ((cFl c).length : Int) ≤ q - p + k ∧ cTy c)
theorem pQu_gd {X : zTp} {p0 q : Int} {t : List Int} (hX : X.2 ≤ 160) (h0 : 2 ≤ p0) (h1 : p0 < q) (h2 : q ≤ X.2) (h4 : (t.length : Int) ≤ q - p0) (h5 : ∀ τ : List Bool, (τ.length : Int) + (q - p0 + 1) / 2 ≤ 80 → tRn t τ = some (true :: τ)) : cGd X p0 1 (pQu X q t) := by
  have hb := pS_b (X := X) q
  unfold pQu
  split
  · rename_i hk
    have hlt := pC_lt (X := X) (p := q) (by omega)
    obtain ⟨i1, i2⟩ := pSumL_gd (X := X) (k := 6) (pS X q + 1) (by omega) (by omega)
    split
    · rename_i e he
      have := i1 e he
      exact ⟨fun e' h => by cases h; omega, fun q t h => by cases h⟩
    · rename_i r u he
      obtain ⟨g1, g2, g3, g4⟩ := i2 r u he
      refine ⟨fun e h => (by cases h), fun q' t' h => ?_⟩
      cases h
      refine ⟨by omega, by omega, ?_, Or.inr (h5 [] (by simp; omega)), g4 [] (by simp; omega)⟩
      unfold cFl
      split <;> simp <;> omega
  · exact ⟨fun e' h => by cases h; omega, fun q t h => by cases h⟩
theorem pBody_gd {X : zTp} {p : Int} (hX : X.2 ≤ 160) (h0 : 2 ≤ p) (hp : p ≤ X.2) : cGd X p 1 (pBody X p) := by
  have hb := pS_b (X := X) p
  unfold pBody
  split
  · obtain ⟨i1, i2⟩ := pCond_gd (pUc_gd (X := X) 6) (pS X p) (by omega) (by omega)
    split
    · rename_i e he
      have := i1 e he
      exact ⟨fun e' h => by cases h; omega, fun q t h => by cases h⟩
    · rename_i q t he
      obtain ⟨g1, g2, g3, g4⟩ := i2 q t he
      exact pQu_gd hX h0 (by omega) g2 (by omega) (fun τ hτ => g4 τ (by omega))
  · obtain ⟨i1, i2⟩ := pSumL_gd (X := X) (k := 6) (pS X p) (by omega) (by omega)
    split
    · rename_i e he
      have := i1 e he
      exact ⟨fun e' h => by cases h; omega, fun q t h => by cases h⟩
    · rename_i q t he
      obtain ⟨g1, g2, g3, g4⟩ := i2 q t he
      split
      · obtain ⟨r1, r2⟩ := pCmp_gd (X := X) (p0 := p) (q := q) (t := t) (pSumL_gd (X := X) (k := 6)) (by omega) (by omega) g2 (by omega) (fun τ hτ => g4 τ (by omega))
        split
        · rename_i e he
          have := r1 e he
          exact ⟨fun e' h => by cases h; omega, fun q t h => by cases h⟩
        · rename_i r t1 he
          obtain ⟨g1, g2, g3, g4⟩ := r2 r t1 he
          obtain ⟨s1, s2⟩ := pTl_gd (p0 := p) (fun _ h => sep_and h) (pUc_gd (X := X) 6) r t1 (by omega) (by omega) g2 g3 g4
          split
          · rename_i e he
            have := s1 e he
            exact ⟨fun e' h => by cases h; omega, fun q t h => by cases h⟩
          · rename_i r2 t2 he
            obtain ⟨g1, g2, g3, g4⟩ := s2 r2 t2 he
            obtain ⟨u1, u2⟩ := pTl_gd (p0 := p) (fun _ h => sep_or h) (pSep_gd (fun _ h => sep_and h) (pUc_gd (X := X) 6)) r2 t2 (by omega) (by omega) g2 g3 g4
            split
            · rename_i e he
              have := u1 e he
              exact ⟨fun e' h => by cases h; omega, fun q t h => by cases h⟩
            · rename_i r3 t3 he
              obtain ⟨g1, g2, g3, g4⟩ := u2 r3 t3 he
              exact pQu_gd hX h0 (by omega) g2 g3 g4
      · have hq := pS_b (X := X) q
        refine ⟨fun e h => (by cases h), fun q' t' h => ?_⟩
        cases h
        refine ⟨by omega, by omega, ?_, Or.inl rfl, g4 [] (by simp; omega)⟩
        simp [cFl]
        omega
theorem pClau_gd {X : zTp} {p : Int} (hX : X.2 ≤ 160) (h0 : 0 ≤ p) (hp : p ≤ X.2) : cGd X p (-1) (pClau X p) := by
  have hb := pS_b (X := X) p
  unfold pClau
  split
  · have hlt := pC_lt (X := X) (p := p) (by omega)
    have hb2 := pS_b (X := X) (pS X p + 1)
    split
    · have hlt2 := pC_lt (X := X) (p := pS X p + 1) (by omega)
      obtain ⟨i1, i2⟩ := pBody_gd (X := X) (p := pS X (pS X p + 1) + 1) hX (by omega) (by omega)
      refine ⟨fun e h => ?_, fun q c h => ?_⟩
      · have := i1 e h
        omega
      · have := i2 q c h
        exact ⟨by omega, by omega, by omega, this.2.2.2⟩
    · exact ⟨fun e' h => by cases h; omega, fun q t h => by cases h⟩
  · exact ⟨fun e' h => by cases h; omega, fun q t h => by cases h⟩
theorem lFl_app : ∀ (a b : zLw), lFl (a ++ b) = lFl a ++ lFl b
  | [], _ => rfl
  | c :: a, b => by
    show cFl c ++ lFl (a ++ b) = cFl c ++ lFl a ++ lFl b
    rw [lFl_app a b, List.append_assoc]
theorem lFl_1 {c : zCl} : lFl [c] = cFl c := by
  show cFl c ++ [] = _
  rw [List.append_nil]
