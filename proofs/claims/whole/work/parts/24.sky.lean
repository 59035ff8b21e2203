/-! THE CLASS: the sky -/
abbrev zSk : Type := List zLw × Int × Int
def kA (S : zSk) : List zLw := S.1
def kH (S : zSk) : Int := S.2.1
def kR (S : zSk) : Int := S.2.2
def sLaw (S : zSk) : zLw := (kA S).getD (kH S).toNat []
def zwt (P : zLw) (t r c dd s : Int) : Int := max 0 (min 9 (sWo (sLe t r c dd s) P))
def sSn (S : zSk) : zSn := fun h r c s => if kH S < 0 then (if 8 ≤ h % 24 ∧ h % 24 ≤ 15 then 5 else 0) else zwt (sLaw S) (h % 24) r c (h / 24) s
def Sok (S : zSk) : Prop := (kA S).length ≤ 4 ∧ (∀ P ∈ kA S, lTy P ∧ (lFl P).length ≤ 160) ∧ -1 ≤ kH S ∧ kH S < (kA S).length
theorem snOk_S {S : zSk} : snOk (sSn S) := by
  intro h r c s
  unfold sSn zwt
  split
  · split <;> omega
  · omega
theorem sTk_nd {t r c dd dd' s x : Int} {st : List Int} (h : x ≠ -100) : sTk (sLe t r c dd s) x st = sTk (sLe t r c dd' s) x st := by
  have e : isLet (-x) = true → sLe t r c dd s (-x) = sLe t r c dd' s (-x) := by
    intro q
    rw [isLet_iff] at q
    unfold sLe
    repeat' split
    all_goals first | rfl | omega
  unfold sTk
  split
  · rfl
  · split
    · rename_i q
      rw [e q]
    · rfl
theorem sRn_nd {t r c dd dd' s : Int} : ∀ (ts st : List Int), (-100) ∉ ts → sRn (sLe t r c dd s) ts st = sRn (sLe t r c dd' s) ts st
  | [], _, _ => rfl
  | x :: ts, st, h => by
    rw [List.mem_cons, not_or] at h
    show sRn _ ts (sTk _ x st) = sRn _ ts (sTk _ x st)
    rw [sTk_nd (dd' := dd') (fun q => h.1 q.symm), sRn_nd ts _ h.2]
theorem sWo_nd {t r c dd dd' s : Int} : ∀ P : zLw, (-100) ∉ lFl P → sWo (sLe t r c dd s) P = sWo (sLe t r c dd' s) P
  | [], _ => rfl
  | (a, b) :: P, h => by
    have h1 : (-100) ∉ cFl (a, b) := fun q => h (List.mem_append.mpr (Or.inl q))
    have h2 : (-100) ∉ lFl P := fun q => h (List.mem_append.mpr (Or.inr q))
    have hb : (-100) ∉ b := fun q => h1 (by unfold cFl; simp [q])
    have ha : (-100) ∉ a := fun q => h1 (by
      have : a ≠ [] := fun e => by rw [e] at q; cases q
      unfold cFl
      simp [q, this])
    unfold sWo sTop
    rw [sRn_nd (dd' := dd') a [] ha, sRn_nd (dd' := dd') b [] hb, sWo_nd (dd' := dd') P h2]
/-- the rows that the sky changes as it is asked are left out -/
abbrev fK (a : Int) : Prop := a ≠ 7 ∧ a ≠ 8 ∧ a ≠ 11 ∧ a ≠ 14 ∧ a ≠ 17 ∧ a ≠ 20 ∧ a ≠ 23
def zFk (v v' : zH) : Prop := ∀ a, fK a → v' a = v a
theorem zFk_rf {v : zH} : zFk v v := fun _ _ => rfl
theorem zFk_tr {u v w : zH} (h : zFk u v) (g : zFk v w) : zFk u w := fun a q => (g a q).trans (h a q)
def Skc (v : zH) (S : zSk) : Prop := 0 ≤ kH S → ∀ p : Int, 0 ≤ p → p < 4 → v 8 p = -1 ∨ ∀ t r c s : Int, 0 ≤ t → t < 24 → 0 ≤ r → r < 4 → 0 ≤ c → c < 6 → 0 ≤ s → s < 4 → v 7 (p * 2304 + ((t * 24 + r * 6 + c) * 4 + s)) = -1 ∨ v 7 (p * 2304 + ((t * 24 + r * 6 + c) * 4 + s)) = zwt (sLaw S) t r c (v 8 p) s
def SK (v : zH) (S : zSk) : Prop :=
  v 5 3 = (kA S).length ∧ v 5 4 = kH S ∧ v 5 5 = kR S ∧ (∀ k : Int, 0 ≤ k → k < 5 → v 6 k = 9 + 3 * k) ∧
  (∀ (k : Nat) (P : zLw), (kA S)[k]? = some P → LW v (9 + 3 * k) (lFl P)) ∧ Skc v S
theorem SK_fr {v v' : zH} {S : zSk} (hS : Sok S) (h : ∀ a, (a = 5 ∨ a = 6 ∨ a = 9 ∨ a = 10 ∨ a = 12 ∨ a = 13 ∨ a = 15 ∨ a = 16 ∨ a = 18 ∨ a = 19) → v' a = v a) (hc : Skc v' S) (k : SK v S) : SK v' S := by
  obtain ⟨k1, k2, k3, k4, k5, -⟩ := k
  have h5 := h 5 (by omega)
  have h6 := h 6 (by omega)
  refine ⟨by rw [h5]; exact k1, by rw [h5]; exact k2, by rw [h5]; exact k3, by rw [h6]; exact k4, fun k P hP => ?_, hc⟩
  have hk : k < (kA S).length := (List.getElem?_eq_some_iff.mp hP).1
  have hl := hS.1
  have g0 := h (9 + 3 * k) (by omega)
  have g1 := h (9 + 3 * k + 1) (by omega)
  obtain ⟨q1, q2, q3⟩ := k5 k P hP
  exact ⟨by rw [g0]; exact q1, CR_fr g1 _ _ q2, by rw [g0]; exact q3⟩
section
variable {l : Launch} {G : zG} {d : Nat} {v : zH} {Q : Int → zH → Prop}
theorem tu_loop {p e : Int} {QX : Nat → zH → Prop} (hp : 0 ≤ p ∧ p < 4) (he : e = (p + 1) * 2304) : ∀ (m : Nat) {i : Int} {v : zH}, 0 ≤ i → i + m = e → (∀ v' : zH, (∀ a, a ≠ 7 → v' a = v a) → (∀ j, i ≤ j → j < e → v' 7 j = -1) → (∀ j, ¬ (i ≤ j ∧ j < e) → v' 7 j = v 7 j) → Q 0 v') → zJ l G 1 (d + 1) h_Sk_turnTo k_Sk_turnTo 115 Q QX 9 [(2, 5), (0, p), (3, 0), (0, i)] [] v 115
  | 0, i, v, hi, hm, K => by
    refine zgo ck_Sk_turnTo 300 9 _ _ _ _ rfl (sg_Sk_turnTo_9 ?_)
    refine ⟨⟨by omega, by omega⟩, ⟨by omega, by omega⟩, fun _ => K v (fun _ _ => rfl) (fun j _ _ => by omega) (fun _ _ => rfl), fun h => absurd h (by omega)⟩
  | m + 1, i, v, hi, hm, K => by
    refine zgo ck_Sk_turnTo 300 9 _ _ _ _ rfl (sg_Sk_turnTo_9 ?_)
    have hz : zLN (5 + 2) = 9216 := by decide
    refine ⟨⟨by omega, by omega⟩, ⟨by omega, by omega⟩, fun h => absurd h (by omega), fun _ => ⟨by decide, by decide, ⟨by omega, by omega⟩, ⟨by omega, by omega⟩, ?_⟩⟩
    refine tu_loop hp he m (by omega) (by omega) (fun v' g1 g2 g3 => K v' (fun a ha => (g1 a ha).trans (zup_a (by omega))) (fun j h1 h2 => ?_) (fun j h1 => ?_))
    · by_cases q : i + 1 ≤ j
      · exact g2 j q h2
      · rw [g3 j (by omega)]
        exact zup_e (by omega) (by omega)
    · rw [g3 j (by omega)]
      exact zup_j (by omega)
theorem c_Sk_turnTo {p D : Int} (hp : 0 ≤ p ∧ p < 4) (K : ∀ v' : zH, (∀ a, a ≠ 7 → a ≠ 8 → v' a = v a) → v' 8 = (zupd v 8 p D) 8 → (∀ j, p * 2304 ≤ j → j < (p + 1) * 2304 → v' 7 j = -1) → (∀ j, ¬ (p * 2304 ≤ j ∧ j < (p + 1) * 2304) → v' 7 j = v 7 j) → Q 0 v') : zC l G 1 (d + 1) h_Sk_turnTo [(2, 5), (0, p), (0, D)] v 115 Q := by
  refine zC_at ok_Sk_turnTo ck_Sk_turnTo rfl rfl (sg_Sk_turnTo_0 ?_)
  have hz : zLN (5 + 3) = 4 := by decide
  refine ⟨by decide, by decide, ⟨by omega, by omega⟩, ⟨by omega, by omega⟩, ?_⟩
  refine tu_loop hp rfl 2304 (by omega) (by omega) (fun v' g1 g2 g3 => K v' (fun a h7 h8 => (g1 a h7).trans (zup_a (by omega))) (g1 8 (by omega)) g2 (fun j hj => (g3 j hj).trans (by rw [zup_a (by omega)])))
theorem c_Sk_rainsAt {S : zSk} {h : Int} (hS : SK v S) (h0 : 0 ≤ h) (K : Q (if sRain (kR S) h then 1 else 0) v) : zC l G 1 (d + 1) h_Sk_rainsAt [(2, 5), (0, h)] v 115 Q := by
  have h5 := hS.2.2.1
  refine c2_Sk_rainsAt (by decide) h5 h0 ?_
  unfold sRain at K
  simpa using K
theorem c_Sk_draft {S : zSk} (hk : Sok S) (hS : SK v S) (K : Q (9 + 3 * (kA S).length) v) : zC l G 1 (d + 1) h_Sk_draft [(2, 5)] v 115 Q := by
  have hl := hk.1
  refine zC_at ok_Sk_draft ck_Sk_draft rfl rfl (sg_Sk_draft_0 ?_)
  have e1 : min (v 5 3) 4 = ((kA S).length : Int) := by rw [hS.1]; omega
  have e2 := hS.2.2.2.1 (kA S).length (by omega) (by omega)
  have hz : zLN (5 + 1) = 5 := by decide
  have e3 : v (5 + 1) ((kA S).length : Int) = 9 + 3 * (kA S).length := e2
  rw [e1, e3]
  exact ⟨by decide, by decide, by decide, ⟨by omega, by omega⟩, by omega, K⟩
theorem ob_loop {QX : Nat → zH → Prop} : ∀ (m : Nat) {i : Int} {v : zH}, 0 ≤ i → i + m = 4 → (∀ v' : zH, (∀ a, a ≠ 8 → v' a = v a) → (∀ j, i ≤ j → j < 4 → v' 8 j = -1) → (∀ j, j < i → v' 8 j = v 8 j) → Q 0 v') → zJ l G 1 (d + 1) h_Sk_obey k_Sk_obey 115 Q QX 5 [(2, 5), (3, 0), (0, i)] [] v 115
  | 0, i, v, hi, hm, K => by
    refine zgo ck_Sk_obey 300 5 _ _ _ _ rfl (sg_Sk_obey_5 ?_)
    exact ⟨fun _ => K v (fun _ _ => rfl) (fun j _ _ => by omega) (fun _ _ => rfl), fun h => absurd h (by omega)⟩
  | m + 1, i, v, hi, hm, K => by
    refine zgo ck_Sk_obey 300 5 _ _ _ _ rfl (sg_Sk_obey_5 ?_)
    have hz : zLN (5 + 3) = 4 := by decide
    refine ⟨fun h => absurd h (by omega), fun _ => ⟨by decide, by decide, ⟨by omega, by omega⟩, ⟨by omega, by omega⟩, ?_⟩⟩
    refine ob_loop m (by omega) (by omega) (fun v' g1 g2 g3 => K v' (fun a ha => (g1 a ha).trans (zup_a (by omega))) (fun j h1 h2 => ?_) (fun j h1 => ?_))
    · by_cases q : i + 1 ≤ j
      · exact g2 j q h2
      · rw [g3 j (by omega)]
        exact zup_e (by omega) (by omega)
    · rw [g3 j (by omega)]
      exact zup_j (by omega)
theorem c_Sk_obey {S : zSk} {w : Int} (hk : Sok S) (hS : SK v S) (K : ∀ v' : zH, (∀ a, a ≠ 5 → a ≠ 8 → v' a = v a) → v' 5 = (zupd v 5 4 w) 5 → SK v' (kA S, w, kR S) → Q 0 v') : zC l G 1 (d + 1) h_Sk_obey [(2, 5), (0, w)] v 115 Q := by
  refine zC_at ok_Sk_obey ck_Sk_obey rfl rfl (sg_Sk_obey_0 ?_)
  refine ⟨by decide, ?_⟩
  refine ob_loop 4 (by omega) (by omega) (fun v' g1 g2 g3 => K v' (fun a h5 h8 => (g1 a h8).trans (zup_a h5)) (g1 5 (by omega)) ?_)
  have e5 : v' 5 = (zupd v 5 4 w) 5 := g1 5 (by omega)
  obtain ⟨k1, k2, k3, k4, k5, -⟩ := hS
  have e6 : v' 6 = v 6 := (g1 6 (by omega)).trans (zup_a (by omega))
  refine ⟨?_, ?_, ?_, ?_, fun k P hP => ?_, fun _ p h1 h2 => Or.inl (g2 p h1 h2)⟩
  · rw [e5, zup_j (by omega)]
    exact k1
  · rw [e5, zup_s]
    rfl
  · rw [e5, zup_j (by omega)]
    exact k3
  · rw [e6]
    exact k4
  · have hP : (kA S)[k]? = some P := hP
    have hkl : k < (kA S).length := (List.getElem?_eq_some_iff.mp hP).1
    have hl := hk.1
    have g0 : v' (9 + 3 * k) = v (9 + 3 * k) := (g1 _ (by omega)).trans (zup_a (by omega))
    have g1 : v' (9 + 3 * k + 1) = v (9 + 3 * k + 1) := (g1 _ (by omega)).trans (zup_a (by omega))
    obtain ⟨q1, q2, q3⟩ := k5 k P hP
    exact ⟨by rw [g0]; exact q1, CR_fr g1 _ _ q2, by rw [g0]; exact q3⟩
end
