/-! THE CLASS: a law worked out -/
def KS (v : zH) (a o : Int) : List Int → Prop
  | [] => True
  | x :: r => v a (r.length + o) = x ∧ KS v a o r
def CR (v : zH) (a p : Int) : List Int → Prop
  | [] => True
  | t :: ts => v a p = t ∧ CR v a (p + 1) ts
theorem KS_upd {v : zH} {a o j x : Int} : ∀ (s : List Int), s.length + o ≤ j → KS v a o s → KS (zupd v a j x) a o s
  | [], _, _ => trivial
  | y :: r, h, ⟨h1, h2⟩ => by
    simp only [List.length_cons] at h
    refine ⟨?_, KS_upd r (by omega) h2⟩
    rw [zup_j (by omega)]
    exact h1
theorem KS_fr {v v' : zH} {a o : Int} (h : v' a = v a) : ∀ (s : List Int), KS v a o s → KS v' a o s
  | [], _ => trivial
  | y :: r, ⟨h1, h2⟩ => ⟨by rw [h]; exact h1, KS_fr h r h2⟩
theorem CR_fr {v v' : zH} {a : Int} (h : v' a = v a) : ∀ (s : List Int) (p : Int), CR v a p s → CR v' a p s
  | [], _, _ => trivial
  | y :: r, p, ⟨h1, h2⟩ => ⟨by rw [h]; exact h1, CR_fr h r _ h2⟩
theorem CR_app {v : zH} {a : Int} : ∀ (s t : List Int) (p : Int), CR v a p (s ++ t) ↔ CR v a p s ∧ CR v a (p + s.length) t
  | [], t, p => by simp [CR]
  | y :: s, t, p => by
    show (v a p = y ∧ CR v a (p + 1) (s ++ t)) ↔ ((v a p = y ∧ CR v a (p + 1) s) ∧ _)
    rw [CR_app s t (p + 1), and_assoc]
    have e : p + 1 + (s.length : Int) = p + ((y :: s).length : Int) := by simp; omega
    rw [e]
theorem tTk_b {t : Int} {τ τ' : List Bool} (h : tTk t τ = some τ') : -124 ≤ t ∧ t ≤ 9999 ∧ t ≠ -59 ∧ t ≠ -63 ∧ (τ.length ≤ 80 → τ'.length ≤ 80) := by
  unfold tTk at h
  split at h
  · split at h
    · cases h
      simp
      omega
    · cases h
  · split at h
    · rename_i h1
      rw [isLet_iff] at h1
      split at h
      · cases h
        simp
        omega
      · cases h
    · split at h
      · split at h
        · cases h
          simp
          omega
        · cases h
      · split at h
        · rename_i h1
          rw [isAr_iff] at h1
          split at h
          · cases h
            simp
            omega
          · cases h
        · split at h
          · rename_i h1
            rw [isCmp_iff] at h1
            split at h
            · cases h
              simp
              omega
            · cases h
          · split at h
            · rename_i h1
              rw [isLg_iff] at h1
              split at h
              · cases h
                simp
                omega
              · cases h
            · cases h
theorem tdiv_b {a b : Int} (h1 : -1000000 ≤ a) (h2 : a ≤ 1000000) : -1000000 ≤ a.tdiv b ∧ a.tdiv b ≤ 1000000 := by
  have h : (a.tdiv b).natAbs = a.natAbs / b.natAbs := Int.natAbs_tdiv a b
  have h3 : a.natAbs / b.natAbs ≤ a.natAbs := Nat.div_le_self _ _
  generalize a.natAbs / b.natAbs = q at h h3
  omega
theorem mul_b {a b : Int} (h1 : -1000000 ≤ a ∧ a ≤ 1000000) (h2 : -1000000 ≤ b ∧ b ≤ 1000000) : -1000000000000 ≤ a * b ∧ a * b ≤ 1000000000000 := by
  have h := Int.natAbs_mul a b
  have h3 : a.natAbs * b.natAbs ≤ 1000000 * 1000000 := Nat.mul_le_mul (by omega) (by omega)
  omega
theorem zand00 : zand 0 0 = 0 := by decide
theorem zand01 : zand 0 1 = 0 := by decide
theorem zand10 : zand 1 0 = 0 := by decide
theorem zand11 : zand 1 1 = 1 := by decide
theorem zor00 : zor 0 0 = 0 := by decide
theorem zor01 : zor 0 1 = 1 := by decide
theorem zor10 : zor 1 0 = 1 := by decide
theorem zor11 : zor 1 1 = 1 := by decide
section
variable {l : Launch} {G : zG} {d : Nat} {v : zH} {Q : Int → zH → Prop}
theorem zcmp_le {x y : Int} : zcmp x y ≤ 0 ↔ x ≤ y := by unfold zcmp; split <;> (try split) <;> omega
theorem zcmp_ge {x y : Int} : 0 ≤ zcmp x y ↔ y ≤ x := by unfold zcmp; split <;> (try split) <;> omega
theorem zcmp_lt {x y : Int} : zcmp x y < 0 ↔ x < y := by unfold zcmp; split <;> (try split) <;> omega
theorem zcmp_gt {x y : Int} : 0 < zcmp x y ↔ y < x := by unfold zcmp; split <;> (try split) <;> omega
theorem zcmp_eq {x y : Int} : zcmp x y = 0 ↔ x = y := by unfold zcmp; split <;> (try split) <;> omega
theorem c_La_joined {k a b : Int} (hk : isAr k = true ∨ isCmp k = true ∨ isLg k = true ∧ (a = 0 ∨ a = 1) ∧ (b = 0 ∨ b = 1)) (ha : -1000000 ≤ a ∧ a ≤ 1000000) (hb : -1000000 ≤ b ∧ b ≤ 1000000) (K : Q (sJn k a b) v) : zC l G 1 (d + 1) h_La_joined [(0, a), (0, k), (0, b)] v 115 Q := by
  refine zC_at ok_La_joined ck_La_joined rfl rfl (sg_La_joined_0 ?_)
  simp only [zcmp_le, zcmp_ge, zcmp_lt, zcmp_gt]
  have ht := tdiv_b (b := b) ha.1 ha.2
  have hm := mul_b ha hb
  rw [isAr_iff, isCmp_iff, isLg_iff] at hk
  rcases hk with (rfl | rfl | rfl | rfl) | (rfl | rfl | rfl) | ⟨rfl | rfl, ha', hb'⟩
  · simp [sJn] at K
    simp
    grind [zLg, zI, sBnd]
  · simp [sJn] at K
    simp
    grind [zLg, zI, sBnd]
  · simp [sJn] at K
    simp
    grind [zLg, zI, sBnd]
  · simp [sJn] at K
    simp
    grind [zLg, zI, sBnd]
  · simp [sJn] at K
    simp
    grind
  · simp [sJn] at K
    simp
    grind
  · simp [sJn] at K
    simp
    grind
  · simp [sJn] at K
    simp
    rcases ha' with rfl | rfl <;> rcases hb' with rfl | rfl <;> simpa [zand00, zand01, zand10, zand11] using K
  · simp [sJn] at K
    simp
    rcases ha' with rfl | rfl <;> rcases hb' with rfl | rfl <;> simpa [zor00, zor01, zor10, zor11] using K
/-- a law's object -/
def zlo (L : Int) : Prop := L = 9 ∨ L = 12 ∨ L = 15 ∨ L = 18 ∨ L = 21
theorem zlo_f {L : Int} (h : zlo L) : zCL L = 2 ∧ zCL (L + 1) = 20 ∧ zLN (L + 1) = 160 ∧ zCL (L + 2) = 20 ∧ zLN (L + 2) = 161 := by
  rcases h with rfl | rfl | rfl | rfl | rfl <;> decide
/-- the letters -/
def sLe (h r c dd s k : Int) : Int := if k = 104 then h else if k = 114 then r else if k = 99 then c else if k = 100 then dd else s
theorem wo_tk {L h r c s t p n0 : Int} {τ τ' : List Bool} {S : List Int} {QX : Nat → zH → Prop} (hL : zlo L) (h0 : 0 ≤ h ∧ h ≤ 1000000) (ht : tTk t τ = some τ') (hT : Tv τ S) (hl : τ.length ≤ 80) (hS : KS v (L + 2) 1 S) (hn : n0 = S.length) (hp : 0 ≤ p) (hz : p < v L 2) (hzz : v L 2 ≤ 160) (hc : v (L + 1) p = t)
    (K : ∀ (v' : zH) (n : Int), (∀ a, a ≠ L + 2 → v' a = v a) → KS v' (L + 2) 1 (sTk (sLe (h % 24) r c (h / 24) s) t S) → n = ((sTk (sLe (h % 24) r c (h / 24) s) t S).length : Int) → zJ l G 1 (d + 2) h_La_worth k_La_worth 115 Q QX 6 [(2, L), (0, h), (0, r), (0, c), (0, s), (0, n), (0, 0), (0, p + 1), (3, 0)] [] v' 115) :
    zJ l G 1 (d + 2) h_La_worth k_La_worth 115 Q QX 6 [(2, L), (0, h), (0, r), (0, c), (0, s), (0, n0), (0, 0), (0, p), (3, 0)] [] v 115 := by
  obtain ⟨f1, f2, f3, f4, f5⟩ := zlo_f hL
  have hlen := Tv_len hT
  have htb := tTk_b ht
  refine zgo ck_La_worth 300 6 _ _ _ _ rfl (sg_La_worth_6 ?_)
  rw [hc, f3, f5, ztd h0.1, ztm h0.1]
  refine ⟨f1, fun h => absurd h (by omega), fun _ => ⟨fun h => absurd h (by omega), fun _ => ⟨f1, Or.inl f4, ⟨by omega, by omega⟩, fun h => absurd h (by omega), fun _ => ⟨f1, f2, ⟨hp, by omega⟩, ⟨by omega, by omega⟩, fun _ => ?_, fun h => absurd rfl h⟩⟩⟩⟩
  unfold tTk at ht
  split at ht
  · rename_i q0
    have e : sTk (sLe (h % 24) r c (h / 24) s) t S = t :: S := by unfold sTk; rw [if_pos q0]
    rw [e] at K
    repeat (refine ⟨fun h => absurd h (by omega), fun _ => ?_⟩)
    rw [Int.neg_neg]
    exact ⟨f1, ⟨by omega, by omega⟩, ⟨by omega, by omega⟩, f4, ⟨by omega, by omega⟩, ⟨by omega, by omega⟩, K _ _ (fun a ha => zup_a ha) ⟨zup_e rfl (by omega), KS_upd _ (by omega) hS⟩ (by simp; omega)⟩
  · rename_i q0
    split at ht
    · rename_i q1
      have e : sTk (sLe (h % 24) r c (h / 24) s) t S = sLe (h % 24) r c (h / 24) s (-t) :: S := by unfold sTk; rw [if_neg q0, if_pos q1]
      rw [e] at K
      rw [isLet_iff] at q1
      rcases q1 with q | q | q | q | q
      all_goals
        rw [q] at K
        repeat (refine ⟨fun h => absurd h (by omega), fun _ => ?_⟩)
        refine ⟨fun _ => ?_, fun h => absurd q h⟩
        exact ⟨f1, ⟨by omega, by omega⟩, f4, ⟨by omega, by omega⟩, ⟨by omega, by omega⟩, K _ _ (fun a ha => zup_a ha) ⟨zup_e rfl (by omega), KS_upd _ (by omega) hS⟩ (by simp; omega)⟩
    · rename_i q1
      split at ht
      · rename_i q2
        match τ, S, hT with
        | true :: ρ, x :: S, hT =>
          have e : sTk (sLe (h % 24) r c (h / 24) s) t (x :: S) = (1 - x) :: S := by unfold sTk; rw [if_neg q0, if_neg q1, if_pos q2]
          rw [e] at K
          have hx := hT.1.1 rfl
          have hS' := hS
          obtain ⟨s1, s2⟩ := hS
          simp only [List.length_cons] at hn hlen
          have e2 : v (L + 2) n0 = x := by rw [← s1, hn]; rfl
          rw [e2]
          refine ⟨fun _ => ⟨f1, f1, f4, ⟨by omega, by omega⟩, ⟨by omega, by omega⟩, f4, ⟨by omega, by omega⟩, ⟨by omega, by omega⟩, K _ _ (fun a ha => zup_a ha) ⟨zup_e rfl (by omega), KS_upd _ (by omega) s2⟩ (by simp; omega)⟩, fun h => absurd (by omega) h⟩
        | false :: _, _ :: _, _ => cases ht
        | [], [], _ => cases ht
      · rename_i q2
        have key : (isAr (-t) = true ∨ isCmp (-t) = true ∨ isLg (-t) = true) ∧ (isLg (-t) = true → ∃ ρ, τ = true :: true :: ρ) ∧ ∃ b1 b2 ρ, τ = b1 :: b2 :: ρ := by
          split at ht
          · rename_i q3
            have n1 : ¬ isLg (-t) = true := by
              rw [isAr_iff] at q3
              rw [isLg_iff]
              omega
            split at ht
            · exact ⟨Or.inl q3, fun h => absurd h n1, _, _, _, rfl⟩
            · cases ht
          · split at ht
            · rename_i q3
              have n1 : ¬ isLg (-t) = true := by
                rw [isCmp_iff] at q3
                rw [isLg_iff]
                omega
              split at ht
              · exact ⟨Or.inr (Or.inl q3), fun h => absurd h n1, _, _, _, rfl⟩
              · cases ht
            · split at ht
              · rename_i q3
                split at ht
                · exact ⟨Or.inr (Or.inr q3), fun _ => ⟨_, rfl⟩, _, _, _, rfl⟩
                · cases ht
              · cases ht
        obtain ⟨k1, k2, b1, b2, ρ, k3⟩ := key
        subst k3
        match S, hT with
        | b :: a :: S, hT =>
          have e : sTk (sLe (h % 24) r c (h / 24) s) t (b :: a :: S) = sJn (-t) a b :: S := by unfold sTk; rw [if_neg q0, if_neg q1, if_neg q2]
          rw [e] at K
          obtain ⟨s1, s2, s3⟩ := hS
          simp only [List.length_cons] at hn hlen s1
          have e1 : v (L + 2) (n0 + -1 + 1) = b := by rw [← s1]; congr 1; omega
          have e2 : v (L + 2) (n0 + -1) = a := by rw [← s2]; congr 1; omega
          rw [e1, e2]
          have hk : -t ≠ 33 ∧ -t ≠ 59 ∧ -t ≠ 63 ∧ -t ≠ 99 ∧ -t ≠ 100 ∧ -t ≠ 104 ∧ -t ≠ 114 ∧ -t ≠ 115 ∧ 0 < -t := by
            rw [isAr_iff, isCmp_iff, isLg_iff] at k1
            omega
          repeat (refine ⟨fun h => absurd h (by omega), fun _ => ?_⟩)
          refine ⟨fun _ => ⟨fun h => absurd h (by omega), fun _ => ⟨⟨by omega, by omega⟩, f1, f1, f4, ⟨by omega, by omega⟩, f1, ⟨by omega, by omega⟩, f4, ⟨by omega, by omega⟩, c_La_joined ?_ hT.2.1.2 hT.1.2 ⟨f4, ⟨by omega, by omega⟩, ⟨by omega, by omega⟩, K _ _ (fun a ha => zup_a ha) ⟨zup_e rfl (by omega), KS_upd _ (by omega) s3⟩ (by simp; omega)⟩⟩⟩, fun h => absurd h (by omega)⟩
          rcases k1 with k1 | k1 | k1
          · exact Or.inl k1
          · exact Or.inr (Or.inl k1)
          · obtain ⟨ρ, k2⟩ := k2 k1
            cases k2
            exact Or.inr (Or.inr ⟨k1, hT.2.1.1 rfl, hT.1.1 rfl⟩)
        | [], hT => exact hT.elim
        | [_], hT => exact hT.2.elim
theorem wo_run {L h r c s : Int} {QX : Nat → zH → Prop} (hL : zlo L) (h0 : 0 ≤ h ∧ h ≤ 1000000) (hle : ∀ k : Int, 0 ≤ sLe (h % 24) r c (h / 24) s k ∧ sLe (h % 24) r c (h / 24) s k ≤ 1000000) : ∀ (ts : List Int) {τ τ' : List Bool} {S : List Int} {p n0 : Int} {v : zH}, tRn ts τ = some τ' → Tv τ S → τ.length ≤ 80 → KS v (L + 2) 1 S → n0 = S.length → 0 ≤ p → p + ts.length ≤ v L 2 → v L 2 ≤ 160 → CR v (L + 1) p ts →
    (∀ (v' : zH) (n : Int), (∀ a, a ≠ L + 2 → v' a = v a) → KS v' (L + 2) 1 (sRn (sLe (h % 24) r c (h / 24) s) ts S) → n = ((sRn (sLe (h % 24) r c (h / 24) s) ts S).length : Int) → zJ l G 1 (d + 2) h_La_worth k_La_worth 115 Q QX 6 [(2, L), (0, h), (0, r), (0, c), (0, s), (0, n), (0, 0), (0, p + ts.length), (3, 0)] [] v' 115) →
    zJ l G 1 (d + 2) h_La_worth k_La_worth 115 Q QX 6 [(2, L), (0, h), (0, r), (0, c), (0, s), (0, n0), (0, 0), (0, p), (3, 0)] [] v 115
  | [], τ, τ', S, p, n0, v, ht, hT, hl, hS, hn, hp, hz, hzz, hc, K => by
    have := K v n0 (fun _ _ => rfl) hS hn
    simpa using this
  | t :: ts, τ, τ', S, p, n0, v, ht, hT, hl, hS, hn, hp, hz, hzz, hc, K => by
    unfold tRn at ht
    split at ht
    · rename_i τ1 e
      have hb := tTk_b e
      simp only [List.length_cons] at hz
      refine wo_tk hL h0 e hT hl hS hn hp (by omega) hzz hc.1 (fun v1 n1 g1 g2 g3 => ?_)
      have gL : v1 L = v L := g1 L (by omega)
      refine wo_run hL h0 hle ts ht (Tv_tk hle e hT) (hb.2.2.2.2 hl) g2 g3 (by omega) (by rw [gL]; omega) (by rw [gL]; exact hzz) (CR_fr (g1 _ (by omega)) _ _ hc.2) (fun v2 n2 u1 u2 u3 => ?_)
      · have := K v2 n2 (fun a ha => (u1 a ha).trans (g1 a ha)) u2 u3
        have e3 : p + ((t :: ts).length : Int) = p + 1 + ts.length := by simp; omega
        rw [e3] at this
        exact this
    · cases ht
theorem tRn_ne {ts : List Int} : ∀ {τ τ' : List Bool}, tRn ts τ = some τ' → ∀ t ∈ ts, -124 ≤ t ∧ t ≤ 9999 ∧ t ≠ -59 ∧ t ≠ -63 := by
  induction ts with
  | nil => intro τ τ' h t ht; cases ht
  | cons u ts ih =>
    intro τ τ' h t ht
    unfold tRn at h
    split at h
    · rename_i s1 e
      rcases List.mem_cons.mp ht with rfl | h1
      · have := tTk_b e
        exact ⟨this.1, this.2.1, this.2.2.1, this.2.2.2.1⟩
      · exact ih h t h1
    · cases h
/-- passed over -/
theorem wo_skip {L h r c s n0 : Int} {QX : Nat → zH → Prop} (hL : zlo L) (hn : 0 ≤ n0 ∧ n0 ≤ 100) (hzz : v L 2 ≤ 160) : ∀ (ts : List Int) {p : Int}, (∀ t ∈ ts, -124 ≤ t ∧ t ≤ 9999 ∧ t ≠ -59 ∧ t ≠ -63) → 0 ≤ p → p + ts.length ≤ v L 2 → CR v (L + 1) p ts →
    zJ l G 1 (d + 2) h_La_worth k_La_worth 115 Q QX 6 [(2, L), (0, h), (0, r), (0, c), (0, s), (0, n0), (0, 1), (0, p + ts.length), (3, 0)] [] v 115 →
    zJ l G 1 (d + 2) h_La_worth k_La_worth 115 Q QX 6 [(2, L), (0, h), (0, r), (0, c), (0, s), (0, n0), (0, 1), (0, p), (3, 0)] [] v 115
  | [], p, ht, hp, hz, hc, K => by simpa using K
  | t :: ts, p, ht, hp, hz, hc, K => by
    obtain ⟨f1, f2, f3, f4, f5⟩ := zlo_f hL
    obtain ⟨t1, t2, t3, t4⟩ := ht t List.mem_cons_self
    simp only [List.length_cons] at hz
    refine zgo ck_La_worth 300 6 _ _ _ _ rfl (sg_La_worth_6 ?_)
    rw [hc.1, f3, f5]
    refine ⟨f1, fun h => absurd h (by omega), fun _ => ⟨fun h => absurd h (by omega), fun _ => ⟨f1, Or.inl f4, ⟨by omega, by omega⟩, fun h => absurd h (by omega), fun _ => ⟨f1, f2, ⟨hp, by omega⟩, ⟨by omega, by omega⟩, fun h => absurd h (by omega), fun _ => ⟨fun h => absurd h (by omega), fun _ => ⟨⟨by omega, by omega⟩, ?_⟩⟩⟩⟩⟩⟩
    refine wo_skip hL hn hzz ts (fun u hu => ht u (List.mem_cons_of_mem _ hu)) (by omega) (by omega) hc.2 ?_
    have e3 : p + 1 + (ts.length : Int) = p + ((t :: ts).length : Int) := by simp; omega
    rw [e3]
    exact K
theorem wo_law {L h r c s : Int} {QX : Nat → zH → Prop} (hL : zlo L) (h0 : 0 ≤ h ∧ h ≤ 1000000) (hle : ∀ k : Int, 0 ≤ sLe (h % 24) r c (h / 24) s k ∧ sLe (h % 24) r c (h / 24) s k ≤ 1000000) : ∀ (P : zLw) {p : Int} {v : zH}, lTy P → 0 ≤ p → p + (lFl P).length = v L 2 → v L 2 ≤ 160 → CR v (L + 1) p (lFl P) →
    (∀ v' : zH, (∀ a, a ≠ L + 2 → v' a = v a) → Q (sWo (sLe (h % 24) r c (h / 24) s) P) v') →
    zJ l G 1 (d + 2) h_La_worth k_La_worth 115 Q QX 6 [(2, L), (0, h), (0, r), (0, c), (0, s), (0, 0), (0, 0), (0, p), (3, 0)] [] v 115
  | [], p, v, ht, hp, hz, hzz, hc, K => by
    obtain ⟨f1, f2, f3, f4, f5⟩ := zlo_f hL
    simp only [lFl, List.length_nil] at hz
    refine zgo ck_La_worth 300 6 _ _ _ _ rfl (sg_La_worth_6 ?_)
    exact ⟨f1, fun _ => K v (fun _ _ => rfl), fun h => absurd h (by omega)⟩
  | cl :: P, p, v, ht, hp, hz, hzz, hc, K => by
    obtain ⟨f1, f2, f3, f4, f5⟩ := zlo_f hL
    obtain ⟨c1, c2⟩ := cl
    obtain ⟨y1, y2⟩ := ht (c1, c2) List.mem_cons_self
    have ht' : lTy P := fun x hx => ht x (List.mem_cons_of_mem _ hx)
    simp only at y1 y2
    -- a sum's end
    have fin : ∀ (q : Int) (v1 : zH), (∀ a, a ≠ L + 2 → v1 a = v a) → 0 ≤ q → q + c2.length + 1 ≤ v L 2 → CR v (L + 1) q (c2 ++ [-59]) → (∀ v' : zH, (∀ a, a ≠ L + 2 → v' a = v a) → Q (sTop (sLe (h % 24) r c (h / 24) s) c2) v') →
        zJ l G 1 (d + 2) h_La_worth k_La_worth 115 Q QX 6 [(2, L), (0, h), (0, r), (0, c), (0, s), (0, 0), (0, 0), (0, q), (3, 0)] [] v1 115 := by
      intro q v1 hv1 hq1 hq2 hcr K2
      rw [CR_app] at hcr
      have gL : v1 L = v L := hv1 L (by omega)
      have gC : v1 (L + 1) = v (L + 1) := hv1 _ (by omega)
      refine wo_run hL h0 hle c2 (S := []) y2 trivial (by simp) trivial rfl hq1 (by rw [gL]; omega) (by rw [gL]; omega) (CR_fr gC _ _ hcr.1) (fun v2 n2 u1 u2 u3 => ?_)
      have hTv := Tv_rn hle c2 (s := []) y2 trivial
      have gL2 : v2 L = v L := (u1 L (by omega)).trans gL
      have gC2 : v2 (L + 1) = v (L + 1) := (u1 _ (by omega)).trans gC
      refine zgo ck_La_worth 300 6 _ _ _ _ rfl (sg_La_worth_6 ?_)
      have e59 : v2 (L + 1) (q + c2.length) = -59 := by rw [gC2]; exact hcr.2.1
      have hlen := Tv_len hTv
      simp only [List.length_cons, List.length_nil] at hlen
      rw [e59, f3, f5, gL2]
      refine ⟨f1, fun h => absurd h (by omega), fun _ => ⟨fun h => absurd h (by omega), fun _ => ⟨f1, Or.inl f4, ⟨by omega, by omega⟩, fun h => absurd h (by omega), fun _ => ⟨f1, f2, ⟨by omega, by omega⟩, ⟨by omega, by omega⟩, fun _ => ⟨fun h => absurd h (by omega), fun _ => ⟨fun _ => ⟨f1, f4, ⟨by omega, by omega⟩, ?_⟩, fun h => absurd (by omega) h⟩⟩, fun h => absurd rfl h⟩⟩⟩⟩
      refine zQe (K2 v2 (fun a ha => (u1 a ha).trans (hv1 a ha))) ?_
      unfold sTop
      match hR : sRn (sLe (h % 24) r c (h / 24) s) c2 [], hlen, u2, u3 with
      | x :: R, hlen, u2, u3 =>
        have := u2.1
        rw [List.length_cons] at u3
        show v2 (L + 2) n2 = x
        rw [← this, u3]
        rfl
      | [], hlen, _, _ => simp at hlen
    have eF : lFl ((c1, c2) :: P) = cFl (c1, c2) ++ lFl P := rfl
    rw [eF] at hz hc
    rw [CR_app] at hc
    obtain ⟨hc, hcP⟩ := hc
    by_cases e1 : c1 = []
    · subst e1
      have e2 : cFl ([], c2) = c2 ++ [-59] := by simp [cFl]
      rw [e2] at hz hc
      simp only [List.length_append, List.length_cons, List.length_nil] at hz
      refine fin p v (fun _ _ => rfl) hp (by omega) hc (fun v' hv' => ?_)
      have e3 : sWo (sLe (h % 24) r c (h / 24) s) (([], c2) :: P) = sTop (sLe (h % 24) r c (h / 24) s) c2 := by simp [sWo]
      rw [← e3]
      exact K v' hv'
    · have y1 := y1.resolve_left e1
      have e2 : cFl (c1, c2) = c1 ++ ([-63] ++ (c2 ++ [-59])) := by simp [cFl, e1]
      rw [e2] at hz hc hcP
      simp only [List.length_append, List.length_cons, List.length_nil] at hz
      rw [CR_app, CR_app] at hc
      obtain ⟨hc1, hcq, hc2⟩ := hc
      refine wo_run hL h0 hle c1 (S := []) y1 trivial (by simp) trivial rfl hp (by omega) hzz hc1 (fun v2 n2 u1 u2 u3 => ?_)
      have hTv := Tv_rn hle c1 (s := []) y1 trivial
      have gL2 : v2 L = v L := u1 L (by omega)
      have gC2 : v2 (L + 1) = v (L + 1) := u1 _ (by omega)
      have e63 : v2 (L + 1) (p + c1.length) = -63 := by rw [gC2]; exact hcq.1
      have hlen := Tv_len hTv
      simp only [List.length_cons, List.length_nil] at hlen
      match hR : sRn (sLe (h % 24) r c (h / 24) s) c1 [], hlen, u2, u3 with
      | [], hlen, _, _ => simp at hlen
      | _ :: _ :: _, hlen, _, _ => simp at hlen
      | [x], hlen, u2, u3 =>
        have u3 : n2 = 1 := by simpa using u3
        subst u3
        have hx : v2 (L + 2) 1 = x := by simpa using u2.1
        have eT : sTop (sLe (h % 24) r c (h / 24) s) c1 = x := by unfold sTop; rw [hR]; rfl
        have e3 : sWo (sLe (h % 24) r c (h / 24) s) ((c1, c2) :: P) = if x ≠ 0 then sTop (sLe (h % 24) r c (h / 24) s) c2 else sWo (sLe (h % 24) r c (h / 24) s) P := by
          simp only [sWo, e1, false_or, eT]
        rw [e3] at K
        refine zgo ck_La_worth 300 6 _ _ _ _ rfl (sg_La_worth_6 ?_)
        rw [e63, f3, f5, gL2, hx]
        refine ⟨f1, fun h => absurd h (by omega), fun _ => ⟨fun h => absurd h (by omega), fun _ => ⟨f1, Or.inl f4, ⟨by omega, by omega⟩, fun h => absurd h (by omega), fun _ => ⟨f1, f2, ⟨by omega, by omega⟩, ⟨by omega, by omega⟩, fun _ => ⟨fun h => absurd h (by omega), fun _ => ⟨fun h => absurd h (by omega), fun _ => ⟨fun _ => ⟨f1, f4, ⟨by omega, by omega⟩, fun hx0 => ⟨⟨by omega, by omega⟩, ⟨by omega, by omega⟩, ?_⟩, fun hx0 => ⟨⟨by omega, by omega⟩, ⟨by omega, by omega⟩, ?_⟩⟩, fun h => absurd (by omega) h⟩⟩⟩, fun h => absurd rfl h⟩⟩⟩⟩
        · refine fin (p + c1.length + 1) v2 u1 (by omega) (by omega) ?_ (fun v' hv' => ?_)
          · simpa using hc2
          · have := K v' hv'
            rw [if_pos hx0] at this
            exact this
        · have hc2' : CR v2 (L + 1) (p + c1.length + 1) (c2 ++ [-59]) := CR_fr gC2 _ _ (by simpa using hc2)
          rw [CR_app] at hc2'
          refine wo_skip hL ⟨by omega, by omega⟩ (by rw [gL2]; omega) c2 (tRn_ne y2) (by omega) (by rw [gL2]; omega) hc2'.1 ?_
          refine zgo ck_La_worth 300 6 _ _ _ _ rfl (sg_La_worth_6 ?_)
          rw [hc2'.2.1, f3, f5, gL2]
          refine ⟨f1, fun h => absurd h (by omega), fun _ => ⟨fun h => absurd h (by omega), fun _ => ⟨f1, Or.inl f4, ⟨by omega, by omega⟩, fun h => absurd h (by omega), fun _ => ⟨f1, f2, ⟨by omega, by omega⟩, ⟨by omega, by omega⟩, fun h => absurd h (by omega), fun _ => ⟨fun _ => ⟨⟨by omega, by omega⟩, ?_⟩, fun h => absurd (by omega) h⟩⟩⟩⟩⟩
          have eP : p + ((c1 ++ ([-63] ++ (c2 ++ [-59]))).length : Int) = p + c1.length + 1 + c2.length + 1 := by
            simp only [List.length_append, List.length_cons, List.length_nil]
            omega
          rw [eP] at hcP
          refine wo_law hL h0 hle P ht' (by omega) (by rw [gL2]; omega) (by rw [gL2]; omega) (CR_fr gC2 _ _ hcP) (fun v' hv' => ?_)
          have := K v' (fun a ha => (hv' a ha).trans (u1 a ha))
          rw [if_neg (by omega)] at this
          exact this
/-- a law's object holds a law -/
def LW (v : zH) (L : Int) (ts : List Int) : Prop := v L 2 = ts.length ∧ CR v (L + 1) 0 ts ∧ v L 3 = if (-100) ∈ ts then 1 else 0
theorem c_La_worth {L h r c s : Int} {P : zLw} (hL : zlo L) (h0 : 0 ≤ h ∧ h ≤ 1000000) (hr : 0 ≤ r ∧ r ≤ 100) (hc : 0 ≤ c ∧ c ≤ 100) (hs : 0 ≤ s ∧ s ≤ 100) (hP : lTy P) (hz : (lFl P).length ≤ 160) (hW : LW v L (lFl P))
    (K : ∀ v' : zH, (∀ a, a ≠ L + 2 → v' a = v a) → Q (sWo (sLe (h % 24) r c (h / 24) s) P) v') : zC l G 1 (d + 2) h_La_worth [(2, L), (0, h), (0, r), (0, c), (0, s)] v 115 Q := by
  refine zC_at ok_La_worth ck_La_worth rfl rfl (sg_La_worth_0 ?_)
  refine wo_law hL h0 (fun k => ?_) P hP (by omega) (by rw [hW.1]; omega) (by rw [hW.1]; omega) hW.2.1 K
  unfold sLe
  repeat' split
  all_goals omega
end
