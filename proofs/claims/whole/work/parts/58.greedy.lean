/-! THE GREEDY SEATING IS RIGHT: best sleeper to best free cell, against counting -/
def cn (p : Int → Bool) (n : Nat) : Int := zsm (fun i => if p i = true then 1 else 0) n
theorem zsm_le {f g : Int → Int} : ∀ n : Nat, (∀ i : Int, 0 ≤ i → i < n → f i ≤ g i) → zsm f n ≤ zsm g n
  | 0, _ => Int.le_refl _
  | n + 1, h => by
    rw [zsm_s, zsm_s]
    have h1 := zsm_le n (fun i a b => h i a (by omega))
    have h2 := h n (by omega) (by omega)
    omega
theorem zsm_one {b : Int} : ∀ n : Nat, 0 ≤ b → zsm (fun i => if i = b then 1 else 0) n = if b < n then 1 else 0
  | 0, h => by rw [zsm_0, if_neg (by omega)]
  | n + 1, h => by
    rw [zsm_s, zsm_one n h]
    by_cases e : (n : Int) = b
    · rw [if_pos e, if_neg (by omega), if_pos (by omega)]; rfl
    · rw [if_neg e]
      by_cases q : b < n
      · rw [if_pos q, if_pos (by omega)]; rfl
      · rw [if_neg q, if_neg (by omega)]; rfl
theorem cn_le {p q : Int → Bool} {n : Nat} (h : ∀ i : Int, 0 ≤ i → i < n → p i = true → q i = true) : cn p n ≤ cn q n := by
  refine zsm_le n (fun i a b => ?_)
  by_cases e : p i = true
  · rw [if_pos e, if_pos (h i a b e)]; exact Int.le_refl _
  · rw [if_neg e]
    split <;> omega
theorem cn_ext {p q : Int → Bool} {n : Nat} (h : ∀ i : Int, 0 ≤ i → i < n → p i = q i) : cn p n = cn q n := zsm_ext (fun i a b => by rw [h i a b])
theorem cn_pt {p q : Int → Bool} {n : Nat} {b : Int} (hb : 0 ≤ b ∧ b < n) (hp : p b = false) (h : ∀ i : Int, 0 ≤ i → i < n → q i = (decide (i = b) || p i)) : cn q n = cn p n + 1 := by
  have e : cn q n = zsm (fun i => (if p i = true then 1 else 0) + if i = b then 1 else 0) n := by
    refine zsm_ext (fun i a c => ?_)
    rw [h i a c]
    by_cases e : i = b
    · subst e
      rw [hp]; simp
    · simp [e]
  rw [e, zsm_add, zsm_one n hb.1, if_pos hb.2]
  rfl
def GI (P L T : Int → Bool) (A f : Int → Int) (Z N : Nat) : Prop :=
  (∀ z : Int, 0 ≤ z → z < Z → L z = true → P z = true) ∧ (∀ z y : Int, 0 ≤ z → z < Z → 0 ≤ y → y < Z → P z = true → L z = false → L y = true → A y ≤ A z) ∧ cn (fun z => P z && !L z) Z = cn T N ∧ (∀ x : Int, cn (fun z => (P z && !L z) && decide (x ≤ A z)) Z ≤ cn (fun a => T a && decide (x ≤ f a)) N)
theorem gi_0 {P : Int → Bool} {A f : Int → Int} {Z N : Nat} : GI P P (fun _ => false) A f Z N := by
  have z0 : ∀ (q : Int → Bool) (n : Nat), (∀ i : Int, q i = false) → cn q n = 0 := fun q n h => zsm_zero (fun i _ _ => by rw [h i]; rfl)
  refine ⟨fun z _ _ h => h, fun z y _ _ _ _ h1 h2 _ => (by rw [h1] at h2; cases h2), ?_, fun x => ?_⟩
  · rw [z0 _ _ (fun i => by cases P i <;> rfl), z0 _ _ (fun i => rfl)]
  · rw [z0 _ _ (fun i => by cases P i <;> rfl)]
    exact Int.le_of_eq (z0 (fun a => (fun _ => false) a && decide (x ≤ f a)) N (fun i => rfl)).symm
theorem gi_s {P L L' T : Int → Bool} {A f : Int → Int} {Z N : Nat} {m b : Int} (h : GI P L T A f Z N) (hm : 0 ≤ m ∧ m < Z) (hl : L m = true) (hx : ∀ y : Int, 0 ≤ y → y < Z → L y = true → A y ≤ A m) (hb : 0 ≤ b ∧ b < N) (ht : T b = false) (hg : A m ≤ f b) (hL : ∀ z : Int, 0 ≤ z → z < Z → L' z = (L z && decide (z ≠ m))) : GI P L' (sTk1 T b) A f Z N := by
  have hP := h.1 m hm.1 hm.2 hl
  have hm' : L' m = false := by rw [hL m hm.1 hm.2]; simp
  have hne : ∀ z : Int, 0 ≤ z → z < Z → z ≠ m → L' z = L z := fun z a c e => by rw [hL z a c]; simp [e]
  refine ⟨fun z a c e => ?_, fun z y a c a' c' e1 e2 e3 => ?_, ?_, fun x => ?_⟩
  · rw [hL z a c] at e
    exact h.1 z a c (by revert e; cases L z <;> simp)
  · have e3' : L y = true := by rw [hL y a' c'] at e3; revert e3; cases L y <;> simp
    by_cases e : z = m
    · rw [e]; exact hx y a' c' e3'
    · rw [hne z a c e] at e2
      exact h.2.1 z y a c a' c' e1 e2 e3'
  · rw [cn_pt (p := fun z => P z && !L z) (b := m) hm (by simp only [hl]; cases P m <;> rfl) (fun i a c => ?_), cn_pt (p := T) (q := sTk1 T b) (b := b) hb ht (fun i a c => rfl), h.2.2.1]
    by_cases e : i = m
    · rw [e, hP, hm']; simp
    · rw [hne i a c e]; simp [e]
  · by_cases k : x ≤ A m
    · rw [cn_pt (p := fun z => (P z && !L z) && decide (x ≤ A z)) (b := m) hm (by simp only [hl]; cases P m <;> rfl) (fun i a c => ?_), cn_pt (p := fun a => T a && decide (x ≤ f a)) (b := b) hb (by simp only [ht]; rfl) (fun i a c => ?_)]
      · have := h.2.2.2 x
        omega
      · unfold sTk1
        by_cases e : i = b
        · rw [e]; simp; omega
        · simp [e]
      · by_cases e : i = m
        · rw [e, hP, hm']; simp [k]
        · rw [hne i a c e]; simp [e]
    · rw [cn_ext (q := fun z => (P z && !L z) && decide (x ≤ A z)) (fun i a c => ?_)]
      · refine Int.le_trans (h.2.2.2 x) (cn_le (fun i a c e => ?_))
        unfold sTk1
        revert e
        cases T i <;> simp
      · by_cases e : i = m
        · rw [e]; simp [k]
        · rw [hne i a c e]
theorem gi_f {P L T : Int → Bool} {A f : Int → Int} {Z N : Nat} {m : Int} (h : GI P L T A f Z N) (hm : 0 ≤ m ∧ m < Z) (hl : L m = true) (hf : ∀ a : Int, 0 ≤ a → a < N → T a = false → f a < A m) : ¬ cn (fun z => P z && decide (A m ≤ A z)) Z ≤ cn (fun a => decide (A m ≤ f a)) N := by
  have hP := h.1 m hm.1 hm.2 hl
  have e1 : cn (fun z => decide (z = m) || (P z && !L z)) Z = cn (fun z => P z && !L z) Z + 1 := cn_pt (b := m) hm (by simp only [hl]; cases P m <;> rfl) (fun i a c => rfl)
  have e2 : cn (fun z => decide (z = m) || (P z && !L z)) Z ≤ cn (fun z => P z && decide (A m ≤ A z)) Z := cn_le (fun i a c e => by
    by_cases q : i = m
    · subst q; rw [hP]; simp
    · simp [q] at e
      have := h.2.1 i m a c hm.1 hm.2 e.1 e.2 hl
      simp [e.1, this])
  have e3 : cn (fun a => decide (A m ≤ f a)) N ≤ cn T N := cn_le (fun i a c e => by
    cases ht : T i with
    | true => rfl
    | false =>
      have := hf i a c ht
      simp at e
      omega)
  have := h.2.2.1
  omega
theorem gi_e {P L T : Int → Bool} {A f : Int → Int} {Z N : Nat} (h : GI P L T A f Z N) (hl : ∀ z : Int, 0 ≤ z → z < Z → L z = false) (x : Int) : cn (fun z => P z && decide (x ≤ A z)) Z ≤ cn (fun a => decide (x ≤ f a)) N := by
  rw [cn_ext (q := fun z => (P z && !L z) && decide (x ≤ A z)) (fun i a c => by rw [hl i a c]; simp)]
  exact Int.le_trans (h.2.2.2 x) (cn_le (fun i a c e => by revert e; cases T i <;> simp))
theorem who_cn {W : zWl} {x s : Int} : sWho W x s = cn (fun z => sBt s z && decide (x ≤ sAsk W z)) (wZ W).toNat := zsm_ext (fun i _ _ => by simp)
theorem wrm_cn {W : zWl} {f : Int → Int} {x : Int} : sWrm W f x = cn (fun a => decide (x ≤ f a)) (wN W).toNat := zsm_ext (fun i _ _ => by simp)
theorem all_no {W : zWl} {f : Int → Int} {s m : Int} {L T : Int → Bool} (h : GI (sBt s) L T (sAsk W) f (wZ W).toNat (wN W).toNat) (hm : 0 ≤ m ∧ m < (wZ W).toNat) (hl : L m = true) (hf : ∀ a : Int, 0 ≤ a → a < (wN W).toNat → T a = false → f a < sAsk W m) : sAll W f s = false := by
  have g := gi_f h hm hl hf
  rw [← Bool.not_eq_true]
  intro q
  unfold sAll at q
  rw [zal_iff] at q
  have := q m hm.1 hm.2
  rw [h.1 m hm.1 hm.2 hl, who_cn, wrm_cn] at this
  simp at this
  exact g this
theorem all_yes {W : zWl} {f : Int → Int} {s : Int} {L T : Int → Bool} (h : GI (sBt s) L T (sAsk W) f (wZ W).toNat (wN W).toNat) (hl : ∀ z : Int, 0 ≤ z → z < (wZ W).toNat → L z = false) : sAll W f s = true := by
  unfold sAll
  rw [zal_iff]
  intro i _ _
  have := gi_e h hl (sAsk W i)
  rw [who_cn, wrm_cn]
  simp [this]
/-- the best that is free -/
theorem bf_x {f : Int → Int} {T : Int → Bool} : ∀ n : Nat, (sBf f T n = -1 → ∀ a : Int, 0 ≤ a → a < n → T a = true) ∧ (sBf f T n ≠ -1 → T (sBf f T n) = false ∧ ∀ a : Int, 0 ≤ a → a < n → T a = false → f a ≤ f (sBf f T n))
  | 0 => ⟨fun _ a h1 h2 => by omega, fun h => absurd rfl h⟩
  | n + 1 => by
    have ih := bf_x (f := f) (T := T) n
    have hb := bf_b (f := f) (T := T) n
    rw [bf_s]
    by_cases k : T n = false ∧ (sBf f T n = -1 ∨ f (sBf f T n) < f n)
    · rw [if_pos k]
      refine ⟨fun h => by omega, fun _ => ⟨k.1, fun a h1 h2 h3 => ?_⟩⟩
      by_cases e : a = n
      · rw [e]; exact Int.le_refl _
      · by_cases q : sBf f T n = -1
        · have := ih.1 q a h1 (by omega)
          rw [h3] at this; cases this
        · have h5 := (ih.2 q).2 a h1 (by omega) h3
          have h6 := k.2.resolve_left q
          omega
    · rw [if_neg k]
      refine ⟨fun h a h1 h2 => ?_, fun h => ⟨(ih.2 h).1, fun a h1 h2 h3 => ?_⟩⟩
      · by_cases e : a = n
        · rw [e]
          cases ht : T n with
          | true => rfl
          | false => exact absurd ⟨ht, Or.inl h⟩ k
        · exact ih.1 h a h1 (by omega)
      · by_cases e : a = n
        · rw [e] at h3 ⊢
          by_cases q : f (sBf f T n) < f n
          · exact absurd ⟨h3, Or.inr q⟩ k
          · omega
        · exact (ih.2 h).2 a h1 (by omega) h3
-- the sets' bits
theorem bitF : ∀ x : Fin 32, ∀ m : Fin 5, sBt ((x.val : Nat) : Int) ((m.val : Nat) : Int) = true → 0 ≤ zand ((x.val : Nat) : Int) (zxor (zshl 1 ((m.val : Nat) : Int)) (-1)) ∧ zand ((x.val : Nat) : Int) (zxor (zshl 1 ((m.val : Nat) : Int)) (-1)) < ((x.val : Nat) : Int) ∧ ∀ z : Fin 5, sBt (zand ((x.val : Nat) : Int) (zxor (zshl 1 ((m.val : Nat) : Int)) (-1))) ((z.val : Nat) : Int) = (sBt ((x.val : Nat) : Int) ((z.val : Nat) : Int) && decide (z ≠ m)) := by decide +kernel
theorem bitE : ∀ x : Fin 32, x.val ≠ 0 → ∃ z : Fin 5, sBt ((x.val : Nat) : Int) ((z.val : Nat) : Int) = true := by decide +kernel
theorem bit0 : ∀ z : Fin 5, sBt 0 ((z.val : Nat) : Int) = false := by decide +kernel
theorem bitH : ∀ n : Fin 6, ∀ x : Fin 32, x.val < 2 ^ n.val → ∀ z : Fin 5, n.val ≤ z.val → sBt ((x.val : Nat) : Int) ((z.val : Nat) : Int) = false := by decide +kernel
theorem bit_r {x m : Int} (hx : 0 ≤ x ∧ x < 32) (hm : 0 ≤ m ∧ m < 5) (h : sBt x m = true) : 0 ≤ zand x (zxor (zshl 1 m) (-1)) ∧ zand x (zxor (zshl 1 m) (-1)) < x ∧ ∀ z : Int, 0 ≤ z → z < 5 → sBt (zand x (zxor (zshl 1 m) (-1))) z = (sBt x z && decide (z ≠ m)) := by
  obtain ⟨a, rfl⟩ : ∃ a : Nat, x = a := ⟨x.toNat, by omega⟩
  obtain ⟨b, rfl⟩ : ∃ b : Nat, m = b := ⟨m.toNat, by omega⟩
  have g := bitF ⟨a, by omega⟩ ⟨b, by omega⟩ h
  refine ⟨g.1, g.2.1, fun z h1 h2 => ?_⟩
  obtain ⟨k, rfl⟩ : ∃ k : Nat, z = k := ⟨z.toNat, by omega⟩
  rw [g.2.2 ⟨k, by omega⟩]
  congr 1
  rw [Bool.eq_iff_iff]
  simp only [decide_eq_true_eq, ne_eq, Fin.mk.injEq]
  omega
theorem bit_e {x n : Int} (hn : 0 ≤ n ∧ n ≤ 5) (hx : 0 ≤ x ∧ x < ((2 ^ n.toNat : Nat) : Int)) (h0 : x ≠ 0) : ∃ z : Int, 0 ≤ z ∧ z < n ∧ sBt x z = true := by
  obtain ⟨a, rfl⟩ : ∃ a : Nat, x = a := ⟨x.toNat, by omega⟩
  obtain ⟨b, rfl⟩ : ∃ b : Nat, n = b := ⟨n.toNat, by omega⟩
  have p5 := pow5 (n := b) (by omega)
  rw [Int.toNat_natCast] at hx
  obtain ⟨z, hz⟩ := bitE ⟨a, by omega⟩ (by show a ≠ 0; omega)
  refine ⟨z.val, by omega, ?_, hz⟩
  have hb := bitH ⟨b, by omega⟩ ⟨a, by omega⟩ (by show a < 2 ^ b; omega) z
  by_cases q : b ≤ z.val
  · have := hb q
    rw [hz] at this
    cases this
  · omega
theorem bit_z {z : Int} (h : 0 ≤ z ∧ z < 5) : sBt 0 z = false := by
  obtain ⟨k, rfl⟩ : ∃ k : Nat, z = k := ⟨z.toNat, by omega⟩
  exact bit0 ⟨k, by omega⟩
