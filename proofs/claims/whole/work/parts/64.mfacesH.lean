/-! THE REFERENCE: questions H: a wall laid anew -/
theorem nmi_div {W : zWl} {k : Int} (h : 0 ≤ k) : 10 * (k.tdiv (wC W)) + k.tmod (wC W) = nmi (wC W) k := by
  rw [ztd h, ztm h]
  rfl
def mLe (W : zWl) (f : Int → Int) (i : Nat) : Int := fd (fun b o => if isc (wR W) (wC W) o = true then (if b = -1 ∨ f (ixn (wC W) o) < b then f (ixn (wC W) o) else b) else b) (-1) i
theorem mLe_s {W : zWl} {f : Int → Int} {i : Nat} : mLe W f (i + 1) = if isc (wR W) (wC W) i = true then (if mLe W f i = -1 ∨ f (ixn (wC W) i) < mLe W f i then f (ixn (wC W) i) else mLe W f i) else mLe W f i := rfl
theorem le_min {f : Int → Int} : ∀ n : Nat, (∀ a : Int, 0 ≤ a → a < (n + 1 : Nat) → 0 ≤ f a) → fd (fun (b : Int) a => if b = -1 ∨ f a < b then f a else b) (-1) (n + 1) = sMinF f (n + 1) ∧ 0 ≤ sMinF f (n + 1)
  | 0, h => by
    have := h 0 (by omega) (by omega)
    rw [min_1]
    exact ⟨rfl, this⟩
  | n + 1, h => by
    have ih := le_min n (fun a a1 a2 => h a a1 (by omega))
    have hn := h ((n + 1 : Nat) : Int) (by omega) (by omega)
    rw [fd_s, ih.1]
    have e : sMinF f (n + 1 + 1) = min (sMinF f (n + 1)) (f ((n + 1 : Nat) : Int)) := rfl
    rw [e]
    refine ⟨?_, by omega⟩
    by_cases q : f ((n + 1 : Nat) : Int) < sMinF f (n + 1)
    · rw [if_pos (Or.inr q)]; omega
    · rw [if_neg (fun q' => q'.elim (fun q' => by omega) q)]; omega
theorem mLe_36 {W : zWl} {f : Int → Int} (hW : Wok W) (hN : 1 ≤ wN W) (hf : ∀ a : Int, 0 ≤ a → a < wN W → 0 ≤ f a) : mLe W f 36 = sMinF f (wN W).toNat ∧ 0 ≤ sMinF f (wN W).toNat := by
  unfold mLe
  rw [fd_nm (g := fun (b : Int) x => if b = -1 ∨ f x < b then f x else b) hW.1 hW.2.1, ← hW.2.2.1]
  obtain ⟨n, hn⟩ : ∃ n : Nat, (wN W).toNat = n + 1 := ⟨(wN W).toNat - 1, by omega⟩
  rw [hn]
  exact le_min n (fun a a1 a2 => hf a a1 (by omega))
section
variable {l : Launch} {G : zG} {d : Nat} {v : zH} {Q : Int → zH → Prop} {W : zWl} {c : zCo} {S : zSk}
/-- a course told anew: its stones and warmths alone -/
theorem QM_re {v' : zH} {c1 c2 : zCo} (hQ : QM v W c1 S) (e1 : cH c2 = cH c1) (e2 : cF c2 = cF c1) (e3 : cU c2 = cU c1) (hc : Cok W c2) (hF : ∀ b : Int, b ≠ 96 → b ≠ 97 → v' b = v b) (hA : ∀ a : Int, isc (wR W) (wC W) a = true → v' 97 a = cW c2 (ixn (wC W) a) ∧ v' 96 a = cS c2 (ixn (wC W) a)) : QM v' W c2 S := by
  obtain ⟨⟨hW, hM, hc1, hO, hk, hS⟩, q2', q3'⟩ := hQ
  refine ⟨⟨hW, MW_fr (fun j _ _ => by rw [hF 77 (by omega) (by omega)]) (hF 93 (by omega) (by omega)) (fun o _ _ => by rw [hF 94 (by omega) (by omega)]; exact ⟨rfl, rfl, rfl⟩) (hF 95 (by omega) (by omega)) hM, hc, ⟨by rw [hF 77 (by omega) (by omega), e1]; exact hO.1, hA, ?_⟩, hk, MS_fr ⟨by rw [hF 77 (by omega) (by omega)], by rw [hF 77 (by omega) (by omega)], by rw [hF 77 (by omega) (by omega)]⟩ (hF 79 (by omega) (by omega)) (hF 80 (by omega) (by omega)) (hF 82 (by omega) (by omega)) (hF 83 (by omega) (by omega)) (hF 84 (by omega) (by omega)) (hF 85 (by omega) (by omega)) hS⟩, by rw [hF 77 (by omega) (by omega)]; exact q2', by rw [e1]; exact q3'⟩
  rw [hF 77 (by omega) (by omega), hF 94 (by omega) (by omega), e2, e3]
  exact hO.2.2
theorem ldm_10 {x : Int} {v0 : zH} {QX : Nat → zH → Prop} (hW : Wok W) (hM : MW v0 W) (hx : 0 ≤ x ∧ x ≤ 1000) (hs : 1 ≤ wS W ∧ wS W ≤ 3) (hN : 1 ≤ wN W ∧ wN W ≤ 6)
    (K : ∀ v' : zH, (∀ b : Int, b ≠ 96 → v' b = v0 b) → (∀ a : Int, 0 ≤ a → a < wN W → v' 96 (nmi (wC W) a) = (sLay W x (wN W).toNat).2.1 a) → Q (sLay W x (wN W).toNat).2.2.1 v') :
    ∀ (m i : Nat) {v : zH}, (i : Int) + m = wN W → (∀ b : Int, b ≠ 96 → v b = v0 b) → (∀ a : Int, wN W - i ≤ a → a < wN W → v 96 (nmi (wC W) a) = (sLay W x i).2.1 a) → zJ l G 1 (d + 1) h_M_layDigits k_M_layDigits 115 Q QX 10 [(2, 77), (3, 0), (3, 0), (0, (sLay W x i).1), (0, (sLay W x i).2.2.1), (0, (sLay W x i).2.2.2), (0, wN W - 1 - i), (3, 0)] [] v 115
  | m, i, v, hi, hF, hz => by
    have eS : v 77 30 = wS W := by rw [hF 77 (by omega)]; exact hM.1
    have eC : v 77 32 = wC W := by rw [hF 77 (by omega)]; exact hM.2.2.1
    match m, hi with
    | 0, hi =>
      have e : i = (wN W).toNat := by omega
      have K := K v hF (fun a a1 a2 => by rw [← e]; exact hz a (by omega) a2)
      rw [← e] at K
      refine zgo ck_M_layDigits 300 10 _ _ _ _ rfl (sg_M_layDigits_10 ?_)
      try simp (disch := omega) only [zup_e, zup_ak, zup_j, Int.zero_add, Int.reduceAdd, mz78, mz79, mz80, mz81, mz82, mz83, mz84, mz85, mz86, mz87, mz88, mz89, mz90, mz91, mz92, mz93, mz94, mz95, mz96, mz97, mz98, mz99, mz100, mz101, mz102, mz103, mz104, mz105, mz106, mz107, mz108, mz109, mz110, mz111, mz112, mz113]
      refine ⟨fun q1 => ?_, fun q2 => ⟨by first | decide | omega | contradiction | exact absurd trivial (by assumption), by first | decide | omega | contradiction | exact absurd trivial (by assumption), ⟨by first | decide | omega | contradiction | exact absurd trivial (by assumption), by first | decide | omega | contradiction | exact absurd trivial (by assumption)⟩, by first | decide | omega | contradiction | exact absurd trivial (by assumption), by first | decide | omega | contradiction | exact absurd trivial (by assumption), by first | decide | omega | contradiction | exact absurd trivial (by assumption), ⟨by first | decide | omega | contradiction | exact absurd trivial (by assumption), by first | decide | omega | contradiction | exact absurd trivial (by assumption)⟩, ⟨by first | decide | omega | contradiction | exact absurd trivial (by assumption), by first | decide | omega | contradiction | exact absurd trivial (by assumption)⟩, by first | decide | omega | contradiction | exact absurd trivial (by assumption), by first | decide | omega | contradiction | exact absurd trivial (by assumption), ⟨by first | decide | omega | contradiction | exact absurd trivial (by assumption), by first | decide | omega | contradiction | exact absurd trivial (by assumption)⟩, ⟨by first | decide | omega | contradiction | exact absurd trivial (by assumption), by first | decide | omega | contradiction | exact absurd trivial (by assumption)⟩, by first | decide | omega | contradiction | exact absurd trivial (by assumption), ⟨by first | decide | omega | contradiction | exact absurd trivial (by assumption), by first | decide | omega | contradiction | exact absurd trivial (by assumption)⟩, ⟨by first | decide | omega | contradiction | exact absurd trivial (by assumption), by first | decide | omega | contradiction | exact absurd trivial (by assumption)⟩, ⟨by first | decide | omega | contradiction | exact absurd trivial (by assumption), by first | decide | omega | contradiction | exact absurd trivial (by assumption)⟩, ⟨by first | decide | omega | contradiction | exact absurd trivial (by assumption), by first | decide | omega | contradiction | exact absurd trivial (by assumption)⟩, ⟨by first | decide | omega | contradiction | exact absurd trivial (by assumption), by first | decide | omega | contradiction | exact absurd trivial (by assumption)⟩, by first | decide | omega | contradiction | exact absurd trivial (by assumption), by first | decide | omega | contradiction | exact absurd trivial (by assumption), ⟨by first | decide | omega | contradiction | exact absurd trivial (by assumption), by first | decide | omega | contradiction | exact absurd trivial (by assumption)⟩, ⟨by first | decide | omega | contradiction | exact absurd trivial (by assumption), by first | decide | omega | contradiction | exact absurd trivial (by assumption)⟩, ?_⟩⟩
      try (any_goals (exfalso; first | omega | exact absurd trivial (by assumption)))
      exact K
    | m + 1, hi =>
      have hC := hW.2.1
      have hN2 := hW.2.2.1
      have hC1 : wC W ≠ 0 := fun q => by rw [q] at hN2; omega
      obtain ⟨b1, b2, b3, b4⟩ := lay_b (W := W) hx.1 hs i
      have p6 := pow6 (m := i) (by omega)
      have e : sLay W x (i + 1) = ((sLay W x i).1 / wS W, upf (sLay W x i).2.1 (wN W - 1 - i) ((sLay W x i).1 % wS W), (sLay W x i).2.2.1 + (sLay W x i).2.2.2 * ((sLay W x i).1 % wS W + 1), (sLay W x i).2.2.2 * 10) := rfl
      have r0 := Int.emod_nonneg (sLay W x i).1 (b := wS W) (by omega)
      have r1 := Int.emod_lt_of_pos (sLay W x i).1 (b := wS W) (by omega)
      have d0 := Int.ediv_nonneg b1.1 (b := wS W) (by omega)
      have d1 := Int.ediv_le_self (wS W) b1.1
      have m1 : (sLay W x i).2.2.2 * ((sLay W x i).1 % wS W + 1) ≤ (sLay W x i).2.2.2 * 3 := Int.mul_le_mul_of_nonneg_left (by omega) (by omega)
      have m0 : 0 ≤ (sLay W x i).2.2.2 * ((sLay W x i).1 % wS W + 1) := Int.mul_nonneg (by omega) (by omega)
      have td : (sLay W x i).1.tdiv (wS W) = (sLay W x i).1 / wS W := ztd b1.1
      have tm : (sLay W x i).1.tmod (wS W) = (sLay W x i).1 % wS W := ztm b1.1
      have tn := nmi_div (W := W) (k := wN W - 1 - i) (by omega)
      have hn := nm36 hW (b := wN W - 1 - i) (by omega)
      have td2 : (wN W - 1 - (i : Int)).tdiv (wC W) = (wN W - 1 - i) / wC W := ztd (by omega)
      have tdb0 := Int.ediv_nonneg (a := wN W - 1 - (i : Int)) (b := wC W) (by omega) (by omega)
      have tdb1 := Int.ediv_le_self (wC W) (a := wN W - 1 - (i : Int)) (by omega)
      have ei : wN W - 1 - (i : Int) + -1 = wN W - 1 - ((i + 1 : Nat) : Int) := by omega
      have g := ldm_10 (QX := QX) hW hM hx hs hN K m (i + 1) (v := zupd v 96 (nmi (wC W) (wN W - 1 - i)) ((sLay W x i).1 % wS W)) (by omega) (fun b q => (zup_a q).trans (hF b q)) (fun a h1 h2 => by
        rw [e]
        show _ = upf (sLay W x i).2.1 (wN W - 1 - i) ((sLay W x i).1 % wS W) a
        by_cases q : a = wN W - 1 - i
        · rw [q, upf_s, zup_s]
        · have hna := nm36 hW (b := a) (by omega)
          have : nmi (wC W) a ≠ nmi (wC W) (wN W - 1 - i) := fun q' => q (by rw [← hna.2.1, q', hn.2.1])
          rw [upf_n q, zup_j this]
          exact hz a (by omega) h2)
      rw [e, ← ei] at g
      refine zgo ck_M_layDigits 300 10 _ _ _ _ rfl (sg_M_layDigits_10 ?_)
      try simp (disch := omega) only [zup_e, zup_ak, zup_j, Int.zero_add, Int.reduceAdd, mz78, mz79, mz80, mz81, mz82, mz83, mz84, mz85, mz86, mz87, mz88, mz89, mz90, mz91, mz92, mz93, mz94, mz95, mz96, mz97, mz98, mz99, mz100, mz101, mz102, mz103, mz104, mz105, mz106, mz107, mz108, mz109, mz110, mz111, mz112, mz113, eS, eC, td, tm, tn]
      refine ⟨fun q1 => ?_, fun q2 => ⟨by first | decide | omega | contradiction | exact absurd trivial (by assumption), by first | decide | omega | contradiction | exact absurd trivial (by assumption), ⟨by first | decide | omega | contradiction | exact absurd trivial (by assumption), by first | decide | omega | contradiction | exact absurd trivial (by assumption)⟩, by first | decide | omega | contradiction | exact absurd trivial (by assumption), by first | decide | omega | contradiction | exact absurd trivial (by assumption), by first | decide | omega | contradiction | exact absurd trivial (by assumption), ⟨by first | decide | omega | contradiction | exact absurd trivial (by assumption), by first | decide | omega | contradiction | exact absurd trivial (by assumption)⟩, ⟨by first | decide | omega | contradiction | exact absurd trivial (by assumption), by first | decide | omega | contradiction | exact absurd trivial (by assumption)⟩, by first | decide | omega | contradiction | exact absurd trivial (by assumption), by first | decide | omega | contradiction | exact absurd trivial (by assumption), ⟨by first | decide | omega | contradiction | exact absurd trivial (by assumption), by first | decide | omega | contradiction | exact absurd trivial (by assumption)⟩, ⟨by first | decide | omega | contradiction | exact absurd trivial (by assumption), by first | decide | omega | contradiction | exact absurd trivial (by assumption)⟩, by first | decide | omega | contradiction | exact absurd trivial (by assumption), ⟨by first | decide | omega | contradiction | exact absurd trivial (by assumption), by first | decide | omega | contradiction | exact absurd trivial (by assumption)⟩, ⟨by first | decide | omega | contradiction | exact absurd trivial (by assumption), by first | decide | omega | contradiction | exact absurd trivial (by assumption)⟩, ⟨by first | decide | omega | contradiction | exact absurd trivial (by assumption), by first | decide | omega | contradiction | exact absurd trivial (by assumption)⟩, ⟨by first | decide | omega | contradiction | exact absurd trivial (by assumption), by first | decide | omega | contradiction | exact absurd trivial (by assumption)⟩, ⟨by first | decide | omega | contradiction | exact absurd trivial (by assumption), by first | decide | omega | contradiction | exact absurd trivial (by assumption)⟩, by first | decide | omega | contradiction | exact absurd trivial (by assumption), by first | decide | omega | contradiction | exact absurd trivial (by assumption), ⟨by first | decide | omega | contradiction | exact absurd trivial (by assumption), by first | decide | omega | contradiction | exact absurd trivial (by assumption)⟩, ⟨by first | decide | omega | contradiction | exact absurd trivial (by assumption), by first | decide | omega | contradiction | exact absurd trivial (by assumption)⟩, ?_⟩⟩
      try (any_goals (exfalso; first | omega | exact absurd trivial (by assumption)))
      exact g
theorem c_M_layDigits {x : Int} (hW : Wok W) (hM : MW v W) (hx : 0 ≤ x ∧ x ≤ 1000) (hs : 1 ≤ wS W ∧ wS W ≤ 3) (hN : 1 ≤ wN W ∧ wN W ≤ 6) (K : ∀ v' : zH, (∀ b : Int, b ≠ 96 → v' b = v b) → (∀ a : Int, 0 ≤ a → a < wN W → v' 96 (nmi (wC W) a) = (sLay W x (wN W).toNat).2.1 a) → Q (sLay W x (wN W).toNat).2.2.1 v') : zC l G 1 (d + 1) h_M_layDigits [(2, 77), (0, x), (0, wN W)] v 115 Q := by
  have g := ldm_10 (l := l) (G := G) (d := d) (QX := fun _ _ => False) hW hM hx hs hN K (wN W).toNat 0 (v := v) (by omega) (fun _ _ => rfl) (fun a h1 h2 => absurd h1 (by omega))
  have e0 : wN W - 1 - ((0 : Nat) : Int) = wN W - 1 := by omega
  rw [e0] at g
  refine zC_at ok_M_layDigits ck_M_layDigits rfl rfl (sg_M_layDigits_0 ?_)
  try simp (disch := omega) only [zup_e, zup_ak, zup_j, Int.zero_add, Int.reduceAdd, mz78, mz79, mz80, mz81, mz82, mz83, mz84, mz85, mz86, mz87, mz88, mz89, mz90, mz91, mz92, mz93, mz94, mz95, mz96, mz97, mz98, mz99, mz100, mz101, mz102, mz103, mz104, mz105, mz106, mz107, mz108, mz109, mz110, mz111, mz112, mz113]
  refine ⟨⟨by first | decide | omega | contradiction | exact absurd trivial (by assumption), by first | decide | omega | contradiction | exact absurd trivial (by assumption)⟩, ?_⟩
  exact g
theorem lnm_6 {f : Int → Int} {QX : Nat → zH → Prop} (hW : Wok W) (hM : MW v W) (hf : NTp v W f) (K : Q (mLe W f 36) v) :
    ∀ (m i : Nat), i + m = 36 → zJ l G 1 (d + 9) h_M_leastNight k_M_leastNight 115 Q QX 6 [(2, 77), (0, mLe W f i), (0, (i : Int))] [] v 115
  | m, i, hi => by
    match m, hi with
    | 0, hi =>
      have e : i = 36 := by omega
      subst e
      refine zgo ck_M_leastNight 300 6 _ _ _ _ rfl (sg_M_leastNight_6 ?_)
      try simp (disch := omega) only [zup_e, zup_ak, zup_j, Int.zero_add, Int.reduceAdd, mz78, mz79, mz80, mz81, mz82, mz83, mz84, mz85, mz86, mz87, mz88, mz89, mz90, mz91, mz92, mz93, mz94, mz95, mz96, mz97, mz98, mz99, mz100, mz101, mz102, mz103, mz104, mz105, mz106, mz107, mz108, mz109, mz110, mz111, mz112, mz113]
      refine ⟨fun q1 => ?_, fun q2 => ⟨by first | decide | omega | contradiction | exact absurd trivial (by assumption), ?_⟩⟩
      try (any_goals (exfalso; first | omega | exact absurd trivial (by assumption)))
      exact K
    | m + 1, hi =>
      have g := lnm_6 (QX := QX) hW hM hf K m (i + 1) (by omega)
      rw [mLe_s] at g
      generalize mLe W f i = B at g ⊢
      refine zgo ck_M_leastNight 300 6 _ _ _ _ rfl (sg_M_leastNight_6 ?_)
      try simp (disch := omega) only [zup_e, zup_ak, zup_j, Int.zero_add, Int.reduceAdd, mz78, mz79, mz80, mz81, mz82, mz83, mz84, mz85, mz86, mz87, mz88, mz89, mz90, mz91, mz92, mz93, mz94, mz95, mz96, mz97, mz98, mz99, mz100, mz101, mz102, mz103, mz104, mz105, mz106, mz107, mz108, mz109, mz110, mz111, mz112, mz113]
      refine ⟨fun q1 => ?_, fun q2 => ⟨by first | decide | omega | contradiction | exact absurd trivial (by assumption), ?_⟩⟩
      try (any_goals (exfalso; first | omega | exact absurd trivial (by assumption)))
      refine m_cell hM ?_
      by_cases ho : isc (wR W) (wC W) i = true
      rotate_left
      · rw [if_neg ho] at g
        rw [if_neg ho]
        refine ⟨fun q1 => ⟨⟨by first | decide | omega | contradiction | exact absurd trivial (by assumption), by first | decide | omega | contradiction | exact absurd trivial (by assumption)⟩, ?_⟩, fun q2 => ⟨fun q3 => ⟨by first | decide | omega | contradiction | exact absurd trivial (by assumption), by first | decide | omega | contradiction | exact absurd trivial (by assumption), ⟨by first | decide | omega | contradiction | exact absurd trivial (by assumption), by first | decide | omega | contradiction | exact absurd trivial (by assumption)⟩, ⟨by first | decide | omega | contradiction | exact absurd trivial (by assumption), by first | decide | omega | contradiction | exact absurd trivial (by assumption)⟩, ?_⟩, fun q4 => ⟨by first | decide | omega | contradiction | exact absurd trivial (by assumption), by first | decide | omega | contradiction | exact absurd trivial (by assumption), ⟨by first | decide | omega | contradiction | exact absurd trivial (by assumption), by first | decide | omega | contradiction | exact absurd trivial (by assumption)⟩, ⟨fun q5 => ⟨⟨by first | decide | omega | contradiction | exact absurd trivial (by assumption), by first | decide | omega | contradiction | exact absurd trivial (by assumption)⟩, ?_⟩, fun q6 => ⟨by first | decide | omega | contradiction | exact absurd trivial (by assumption), by first | decide | omega | contradiction | exact absurd trivial (by assumption), ⟨by first | decide | omega | contradiction | exact absurd trivial (by assumption), by first | decide | omega | contradiction | exact absurd trivial (by assumption)⟩, ⟨by first | decide | omega | contradiction | exact absurd trivial (by assumption), by first | decide | omega | contradiction | exact absurd trivial (by assumption)⟩, ?_⟩⟩⟩⟩⟩
        try (any_goals (exfalso; first | omega | exact absurd trivial (by assumption)))
        exact g
      rw [if_pos ho] at g
      rw [if_pos ho]
      have e := hf i ho
      show _
      simp only [e]
      by_cases hb : B = -1
      · rw [if_pos (Or.inl hb)] at g
        refine ⟨fun q1 => ⟨⟨by first | decide | omega | contradiction | exact absurd trivial (by assumption), by first | decide | omega | contradiction | exact absurd trivial (by assumption)⟩, ?_⟩, fun q2 => ⟨fun q3 => ⟨by first | decide | omega | contradiction | exact absurd trivial (by assumption), by first | decide | omega | contradiction | exact absurd trivial (by assumption), ⟨by first | decide | omega | contradiction | exact absurd trivial (by assumption), by first | decide | omega | contradiction | exact absurd trivial (by assumption)⟩, ⟨by first | decide | omega | contradiction | exact absurd trivial (by assumption), by first | decide | omega | contradiction | exact absurd trivial (by assumption)⟩, ?_⟩, fun q4 => ⟨by first | decide | omega | contradiction | exact absurd trivial (by assumption), by first | decide | omega | contradiction | exact absurd trivial (by assumption), ⟨by first | decide | omega | contradiction | exact absurd trivial (by assumption), by first | decide | omega | contradiction | exact absurd trivial (by assumption)⟩, ⟨fun q5 => ⟨⟨by first | decide | omega | contradiction | exact absurd trivial (by assumption), by first | decide | omega | contradiction | exact absurd trivial (by assumption)⟩, ?_⟩, fun q6 => ⟨by first | decide | omega | contradiction | exact absurd trivial (by assumption), by first | decide | omega | contradiction | exact absurd trivial (by assumption), ⟨by first | decide | omega | contradiction | exact absurd trivial (by assumption), by first | decide | omega | contradiction | exact absurd trivial (by assumption)⟩, ⟨by first | decide | omega | contradiction | exact absurd trivial (by assumption), by first | decide | omega | contradiction | exact absurd trivial (by assumption)⟩, ?_⟩⟩⟩⟩⟩
        try (any_goals (exfalso; first | omega | exact absurd trivial (by assumption)))
        exact g
      · by_cases hlt : f (ixn (wC W) i) < B
        · rw [if_pos (Or.inr hlt)] at g
          refine ⟨fun q1 => ⟨⟨by first | decide | omega | contradiction | exact absurd trivial (by assumption), by first | decide | omega | contradiction | exact absurd trivial (by assumption)⟩, ?_⟩, fun q2 => ⟨fun q3 => ⟨by first | decide | omega | contradiction | exact absurd trivial (by assumption), by first | decide | omega | contradiction | exact absurd trivial (by assumption), ⟨by first | decide | omega | contradiction | exact absurd trivial (by assumption), by first | decide | omega | contradiction | exact absurd trivial (by assumption)⟩, ⟨by first | decide | omega | contradiction | exact absurd trivial (by assumption), by first | decide | omega | contradiction | exact absurd trivial (by assumption)⟩, ?_⟩, fun q4 => ⟨by first | decide | omega | contradiction | exact absurd trivial (by assumption), by first | decide | omega | contradiction | exact absurd trivial (by assumption), ⟨by first | decide | omega | contradiction | exact absurd trivial (by assumption), by first | decide | omega | contradiction | exact absurd trivial (by assumption)⟩, ⟨fun q5 => ⟨⟨by first | decide | omega | contradiction | exact absurd trivial (by assumption), by first | decide | omega | contradiction | exact absurd trivial (by assumption)⟩, ?_⟩, fun q6 => ⟨by first | decide | omega | contradiction | exact absurd trivial (by assumption), by first | decide | omega | contradiction | exact absurd trivial (by assumption), ⟨by first | decide | omega | contradiction | exact absurd trivial (by assumption), by first | decide | omega | contradiction | exact absurd trivial (by assumption)⟩, ⟨by first | decide | omega | contradiction | exact absurd trivial (by assumption), by first | decide | omega | contradiction | exact absurd trivial (by assumption)⟩, ?_⟩⟩⟩⟩⟩
          try (any_goals (exfalso; first | omega | exact absurd trivial (by assumption)))
          exact g
        · rw [if_neg (fun q => q.elim hb hlt)] at g
          refine ⟨fun q1 => ⟨⟨by first | decide | omega | contradiction | exact absurd trivial (by assumption), by first | decide | omega | contradiction | exact absurd trivial (by assumption)⟩, ?_⟩, fun q2 => ⟨fun q3 => ⟨by first | decide | omega | contradiction | exact absurd trivial (by assumption), by first | decide | omega | contradiction | exact absurd trivial (by assumption), ⟨by first | decide | omega | contradiction | exact absurd trivial (by assumption), by first | decide | omega | contradiction | exact absurd trivial (by assumption)⟩, ⟨by first | decide | omega | contradiction | exact absurd trivial (by assumption), by first | decide | omega | contradiction | exact absurd trivial (by assumption)⟩, ?_⟩, fun q4 => ⟨by first | decide | omega | contradiction | exact absurd trivial (by assumption), by first | decide | omega | contradiction | exact absurd trivial (by assumption), ⟨by first | decide | omega | contradiction | exact absurd trivial (by assumption), by first | decide | omega | contradiction | exact absurd trivial (by assumption)⟩, ⟨fun q5 => ⟨⟨by first | decide | omega | contradiction | exact absurd trivial (by assumption), by first | decide | omega | contradiction | exact absurd trivial (by assumption)⟩, ?_⟩, fun q6 => ⟨by first | decide | omega | contradiction | exact absurd trivial (by assumption), by first | decide | omega | contradiction | exact absurd trivial (by assumption), ⟨by first | decide | omega | contradiction | exact absurd trivial (by assumption), by first | decide | omega | contradiction | exact absurd trivial (by assumption)⟩, ⟨by first | decide | omega | contradiction | exact absurd trivial (by assumption), by first | decide | omega | contradiction | exact absurd trivial (by assumption)⟩, ?_⟩⟩⟩⟩⟩
          try (any_goals (exfalso; first | omega | exact absurd trivial (by assumption)))
          exact g
theorem c_M_leastNight (hQ : QM v W c S) (hN : 1 ≤ wN W) (K : ∀ v' : zH, Fz v v' → QM v' W c S → (∀ b : Int, 104 ≤ b → v' b = v b) → 0 ≤ sMinF (sNi W (sSn S) (kR S) c) (wN W).toNat → Q (sMinF (sNi W (sSn S) (kR S) c) (wN W).toNat) v') : zC l G 1 (d + 9) h_M_leastNight [(2, 77)] v 115 Q := by
  have hW := hQ.1.1
  have hh := hQ.2.2
  refine zC_at ok_M_leastNight ck_M_leastNight rfl rfl (sg_M_leastNight_0 ?_)
  try simp (disch := omega) only [zup_e, zup_ak, zup_j, Int.zero_add, Int.reduceAdd, mz78, mz79, mz80, mz81, mz82, mz83, mz84, mz85, mz86, mz87, mz88, mz89, mz90, mz91, mz92, mz93, mz94, mz95, mz96, mz97, mz98, mz99, mz100, mz101, mz102, mz103, mz104, mz105, mz106, mz107, mz108, mz109, mz110, mz111, mz112, mz113]
  refine ⟨by first | decide | omega | contradiction | exact absurd trivial (by assumption), ?_⟩
  refine c_M_layNight hQ.1 (by omega) (fun v1 f1 f2 f3 f4 f5 f6 f7 => ?_)
  have em := mLe_36 (f := sNi W (sSn S) (kR S) c) hW hN (fun a a1 a2 => (sNi_b snOk_S hW hQ.1.2.2.1 (by omega) a1 a2).1)
  refine lnm_6 hW f6.2.1 f7 ?_ 36 0 (by omega)
  rw [em.1]
  exact K v1 f1 ⟨f6, by rw [f2 39 (by omega) (by omega)]; exact hQ.2.1, hh⟩ f5 em.2
-- the walls, one by one
theorem sLad_s {i : Nat} : sLad W S c (i + 1) = if (sLad W S c i).2 < sLdF W S c i then ((sLay W i (wN W).toNat).2.2.1, sLdF W S c i) else sLad W S c i := rfl
/-- what stands put by while walls are laid anew -/
def LDp (v0 v : zH) (W : zWl) (c : zCo) (S : zSk) : Prop := Fz v0 v ∧ (∃ c1 : zCo, QM v W c1 S ∧ cH c1 = cH c ∧ cF c1 = cF c ∧ cU c1 = cU c) ∧ (∀ a : Int, 0 ≤ a → a < 36 → v 105 a = v0 96 a ∧ v 106 a = v0 97 a)
theorem lam_63 {x k best most dg n N : Int} {v0 w0 : zH} {QX : Nat → zH → Prop} (hQ0 : QM v0 W c S) (hs : 1 ≤ wS W ∧ wS W ≤ 3) (hN : 1 ≤ wN W ∧ wN W ≤ 6) (hx : 0 ≤ x ∧ x ≤ 1000) (hL : LDp v0 w0 W c S) (hb : best = -1 ∨ 0 ≤ best) (hp : (best = -1 → most = 0) ∧ (best ≠ -1 → 0 ≤ most))
    (K : ∀ v' : zH, LDp v0 v' W c S → 0 ≤ sLdF W S c x → zJ l G 1 (d + 10) h_M_laid k_M_laid 115 Q QX 53 [(2, 77), (0, k), (0, N), (0, n), (0, if best = -1 ∨ most < sLdF W S c x then dg else best), (0, if best = -1 ∨ most < sLdF W S c x then sLdF W S c x else most), (0, x + 1), (3, 0), (3, 0)] [] v' 115) :
    ∀ (m i : Nat) {v : zH}, i + m = 36 → (∀ b : Int, b ≠ 96 → b ≠ 97 → v b = w0 b) → (∀ a : Int, 0 ≤ a → a < wN W → v 96 (nmi (wC W) a) = (sLay W x (wN W).toNat).2.1 a) → (∀ o : Int, 0 ≤ o → o < i → v 97 o = 0) → zJ l G 1 (d + 10) h_M_laid k_M_laid 115 Q QX 63 [(2, 77), (0, k), (0, N), (0, n), (0, best), (0, most), (0, x), (0, dg), (0, (i : Int))] [] v 115
  | m, i, v, hi, hF, h96, h97 => by
    obtain ⟨hW, hM0, hc, -⟩ := id hQ0.1
    match m, hi with
    | 0, hi =>
      obtain ⟨l1, ⟨c1, l2, l3, l4, l5⟩, l6⟩ := hL
      have hQ : QM v W (cLaid W c x) S := QM_re (c2 := cLaid W c x) l2 l3.symm l4.symm l5.symm (Cok_laid hW hc hx.1 hs) hF (fun a ha => by
        have h36 := is36 hW ha
        have x4 := (gE hW.1.2 hW.2.1 ha).2.2.2.2.1
        have e := h96 _ h36.2.2.1 h36.2.2.2
        rw [x4] at e
        exact ⟨h97 a h36.1 (by omega), e⟩)
      refine zgo ck_M_laid 300 63 _ _ _ _ rfl (sg_M_laid_63 ?_)
      try simp (disch := omega) only [zup_e, zup_ak, zup_j, Int.zero_add, Int.reduceAdd, mz78, mz79, mz80, mz81, mz82, mz83, mz84, mz85, mz86, mz87, mz88, mz89, mz90, mz91, mz92, mz93, mz94, mz95, mz96, mz97, mz98, mz99, mz100, mz101, mz102, mz103, mz104, mz105, mz106, mz107, mz108, mz109, mz110, mz111, mz112, mz113]
      refine ⟨fun q1 => ⟨by first | decide | omega | contradiction | exact absurd trivial (by assumption), ?_⟩, fun q2 => ⟨by first | decide | omega | contradiction | exact absurd trivial (by assumption), by first | decide | omega | contradiction | exact absurd trivial (by assumption), ⟨by first | decide | omega | contradiction | exact absurd trivial (by assumption), by first | decide | omega | contradiction | exact absurd trivial (by assumption)⟩, ⟨by first | decide | omega | contradiction | exact absurd trivial (by assumption), by first | decide | omega | contradiction | exact absurd trivial (by assumption)⟩, ?_⟩⟩
      try (any_goals (exfalso; first | omega | exact absurd trivial (by assumption)))
      refine c_M_leastNight hQ hN.1 (fun v1 f1 f2 f3 f4 => ?_)
      have eF : sMinF (sNi W (sSn S) (kR S) (cLaid W c x)) (wN W).toNat = sLdF W S c x := rfl
      rw [eF] at f4 ⊢
      have K := K v1 ⟨Fz_tr l1 (Fz_tr ⟨fun b q => hF b (by omega) (by omega), fun j _ _ _ _ _ _ => by rw [hF 77 (by omega) (by omega)]⟩ f1), ⟨cLaid W c x, f2, rfl, rfl, rfl⟩, fun a a1 a2 => by
        rw [f3 105 (by omega), f3 106 (by omega), hF 105 (by omega) (by omega), hF 106 (by omega) (by omega)]
        exact l6 a a1 a2⟩ f4
      by_cases h1 : best = -1
      · rw [if_pos (Or.inl h1), if_pos (Or.inl h1)] at K
        refine ⟨fun q1 => ⟨⟨by first | decide | omega | contradiction | exact absurd trivial (by assumption), by first | decide | omega | contradiction | exact absurd trivial (by assumption)⟩, ?_⟩, fun q2 => ⟨fun q3 => ⟨⟨by first | decide | omega | contradiction | exact absurd trivial (by assumption), by first | decide | omega | contradiction | exact absurd trivial (by assumption)⟩, ?_⟩, fun q4 => ⟨⟨by first | decide | omega | contradiction | exact absurd trivial (by assumption), by first | decide | omega | contradiction | exact absurd trivial (by assumption)⟩, ?_⟩⟩⟩
        try (any_goals (exfalso; first | omega | exact absurd trivial (by assumption)))
        exact K
      · by_cases h2 : most < sLdF W S c x
        · rw [if_pos (Or.inr h2), if_pos (Or.inr h2)] at K
          refine ⟨fun q1 => ⟨⟨by first | decide | omega | contradiction | exact absurd trivial (by assumption), by first | decide | omega | contradiction | exact absurd trivial (by assumption)⟩, ?_⟩, fun q2 => ⟨fun q3 => ⟨⟨by first | decide | omega | contradiction | exact absurd trivial (by assumption), by first | decide | omega | contradiction | exact absurd trivial (by assumption)⟩, ?_⟩, fun q4 => ⟨⟨by first | decide | omega | contradiction | exact absurd trivial (by assumption), by first | decide | omega | contradiction | exact absurd trivial (by assumption)⟩, ?_⟩⟩⟩
          try (any_goals (exfalso; first | omega | exact absurd trivial (by assumption)))
          exact K
        · rw [if_neg (fun q => q.elim h1 h2), if_neg (fun q => q.elim h1 h2)] at K
          refine ⟨fun q1 => ⟨⟨by first | decide | omega | contradiction | exact absurd trivial (by assumption), by first | decide | omega | contradiction | exact absurd trivial (by assumption)⟩, ?_⟩, fun q2 => ⟨fun q3 => ⟨⟨by first | decide | omega | contradiction | exact absurd trivial (by assumption), by first | decide | omega | contradiction | exact absurd trivial (by assumption)⟩, ?_⟩, fun q4 => ⟨⟨by first | decide | omega | contradiction | exact absurd trivial (by assumption), by first | decide | omega | contradiction | exact absurd trivial (by assumption)⟩, ?_⟩⟩⟩
          try (any_goals (exfalso; first | omega | exact absurd trivial (by assumption)))
          exact K
    | m + 1, hi =>
      refine zgo ck_M_laid 300 63 _ _ _ _ rfl (sg_M_laid_63 ?_)
      try simp (disch := omega) only [zup_e, zup_ak, zup_j, Int.zero_add, Int.reduceAdd, mz78, mz79, mz80, mz81, mz82, mz83, mz84, mz85, mz86, mz87, mz88, mz89, mz90, mz91, mz92, mz93, mz94, mz95, mz96, mz97, mz98, mz99, mz100, mz101, mz102, mz103, mz104, mz105, mz106, mz107, mz108, mz109, mz110, mz111, mz112, mz113]
      refine ⟨fun q1 => ⟨by first | decide | omega | contradiction | exact absurd trivial (by assumption), ?_⟩, fun q2 => ⟨by first | decide | omega | contradiction | exact absurd trivial (by assumption), by first | decide | omega | contradiction | exact absurd trivial (by assumption), ⟨by first | decide | omega | contradiction | exact absurd trivial (by assumption), by first | decide | omega | contradiction | exact absurd trivial (by assumption)⟩, ⟨by first | decide | omega | contradiction | exact absurd trivial (by assumption), by first | decide | omega | contradiction | exact absurd trivial (by assumption)⟩, ?_⟩⟩
      try (any_goals (exfalso; first | omega | exact absurd trivial (by assumption)))
      refine lam_63 hQ0 hs hN hx hL hb hp K m (i + 1) (by omega) (fun b b1 b2 => (zup_a b2).trans (hF b b1 b2)) (fun a a1 a2 => by rw [zup_ak (by omega)]; exact h96 a a1 a2) (fun o o1 o2 => ?_)
      by_cases e : o = i
      · rw [e, zup_s]
      · rw [zup_j e]
        exact h97 o o1 (by omega)
theorem lam_53 {k : Int} {n : Nat} {v0 : zH} {QX : Nat → zH → Prop} (hQ0 : QM v0 W c S) (hs : 1 ≤ wS W ∧ wS W ≤ 3) (hN : 1 ≤ wN W ∧ wN W ≤ 6) (hn : 1 ≤ n ∧ n ≤ 729)
    (K : ∀ v' : zH, Fz v0 v' → QM v' W c S → Q (if k = 0 then (sLad W S c n).1 else (sLad W S c n).2) v') :
    ∀ (m i : Nat) {v : zH}, i + m = n → LDp v0 v W c S → Pok (sLad W S c i) → ((sLad W S c i).1 = -1 ∨ 0 ≤ (sLad W S c i).1) → (1 ≤ i → (sLad W S c i).1 ≠ -1) → zJ l G 1 (d + 10) h_M_laid k_M_laid 115 Q QX 53 [(2, 77), (0, k), (0, wN W), (0, (n : Int)), (0, (sLad W S c i).1), (0, mP (sLad W S c i)), (0, (i : Int)), (3, 0), (3, 0)] [] v 115
  | m, i, v, hi, hL, hp, hb, h1 => by
    obtain ⟨hW, hM0, hc, hO0, -⟩ := id hQ0.1
    match m, hi with
    | 0, hi =>
      have e : i = n := by omega
      subst e
      obtain ⟨l1, ⟨c1, l2, l3, l4, l5⟩, l6⟩ := hL
      have hne := h1 (by omega)
      have em : mP (sLad W S c i) = (sLad W S c i).2 := by unfold mP; rw [if_neg hne]
      rw [em]
      have fin : ∀ v1 v2 : zH, (∀ x : Int, x ≠ 96 → v1 x = v x) → (∀ j : Int, 0 ≤ j → j < 36 → v1 96 j = v 105 j) → (∀ x : Int, x ≠ 97 → v2 x = v1 x) → (∀ j : Int, 0 ≤ j → j < 36 → v2 97 j = v1 106 j) → Q (if k = 0 then (sLad W S c i).1 else (sLad W S c i).2) v2 := fun v1 v2 f1 f2 f3 f4 => by
        have hF : ∀ b : Int, b ≠ 96 → b ≠ 97 → v2 b = v b := fun b b1 b2 => by rw [f3 b b2, f1 b b1]
        refine K v2 (Fz_tr l1 ⟨fun b q => hF b (by omega) (by omega), fun j _ _ _ _ _ _ => by rw [hF 77 (by omega) (by omega)]⟩) (QM_re l2 l3.symm l4.symm l5.symm hc hF (fun a ha => ?_))
        have h36 := is36 hW ha
        have e6 := l6 a h36.1 h36.2.1
        rw [f4 a h36.1 h36.2.1, f1 106 (by omega), e6.2, f3 96 (by omega), f2 a h36.1 h36.2.1, e6.1]
        exact hO0.2.1 a ha
      refine zgo ck_M_laid 300 53 _ _ _ _ rfl (sg_M_laid_53 ?_)
      try simp (disch := omega) only [zup_e, zup_ak, zup_j, Int.zero_add, Int.reduceAdd, mz78, mz79, mz80, mz81, mz82, mz83, mz84, mz85, mz86, mz87, mz88, mz89, mz90, mz91, mz92, mz93, mz94, mz95, mz96, mz97, mz98, mz99, mz100, mz101, mz102, mz103, mz104, mz105, mz106, mz107, mz108, mz109, mz110, mz111, mz112, mz113]
      refine ⟨fun q1 => ⟨by first | decide | omega | contradiction | exact absurd trivial (by assumption), by first | decide | omega | contradiction | exact absurd trivial (by assumption), ?_⟩, fun q2 => ⟨by first | decide | omega | contradiction | exact absurd trivial (by assumption), ?_⟩⟩
      try (any_goals (exfalso; first | omega | exact absurd trivial (by assumption)))
      refine c_M_copy (n := 36) (by decide) (by decide) (by omega) (by omega) (fun v1 f1 f2 => ?_)
      refine ⟨by first | decide | omega | contradiction | exact absurd trivial (by assumption), by first | decide | omega | contradiction | exact absurd trivial (by assumption), ?_⟩
      try (any_goals (exfalso; first | omega | exact absurd trivial (by assumption)))
      refine c_M_copy (n := 36) (by decide) (by decide) (by omega) (by omega) (fun v2 f3 f4 => ?_)
      have K := fin v1 v2 f1 f2 f3 f4
      by_cases hk : k = 0
      · rw [if_pos hk] at K
        refine ⟨fun q1 => ?_, fun q2 => ?_⟩
        try (any_goals (exfalso; first | omega | exact absurd trivial (by assumption)))
        exact K
      · rw [if_neg hk] at K
        refine ⟨fun q1 => ?_, fun q2 => ?_⟩
        try (any_goals (exfalso; first | omega | exact absurd trivial (by assumption)))
        exact K
    | m + 1, hi =>
      have g := fun {v : zH} => lam_53 (v := v) (QX := QX) hQ0 hs hN hn K m (i + 1) (by omega)
      rw [sLad_s] at g
      have hL' := hL
      obtain ⟨l1, ⟨c1, l2, l3, l4, l5⟩, l6⟩ := hL'
      have hdg := (lay_b (W := W) (x := (i : Int)) (by omega) hs (wN W).toNat).2.2.1.1
      refine zgo ck_M_laid 300 53 _ _ _ _ rfl (sg_M_laid_53 ?_)
      try simp (disch := omega) only [zup_e, zup_ak, zup_j, Int.zero_add, Int.reduceAdd, mz78, mz79, mz80, mz81, mz82, mz83, mz84, mz85, mz86, mz87, mz88, mz89, mz90, mz91, mz92, mz93, mz94, mz95, mz96, mz97, mz98, mz99, mz100, mz101, mz102, mz103, mz104, mz105, mz106, mz107, mz108, mz109, mz110, mz111, mz112, mz113]
      refine ⟨fun q1 => ⟨by first | decide | omega | contradiction | exact absurd trivial (by assumption), by first | decide | omega | contradiction | exact absurd trivial (by assumption), ?_⟩, fun q2 => ⟨by first | decide | omega | contradiction | exact absurd trivial (by assumption), ?_⟩⟩
      try (any_goals (exfalso; first | omega | exact absurd trivial (by assumption)))
      refine c_M_layDigits hW l2.1.2.1 (by omega) hs hN (fun v1 f1 f2 => ?_)
      generalize sLad W S c i = p at g hp hb h1 ⊢
      refine lam_63 (x := (i : Int)) (w0 := v) hQ0 hs hN (by omega) hL hb ⟨fun e => ?_, fun e => ?_⟩ (fun v2 z1 z2 => ?_) 36 0 (by omega) (fun b b1 b2 => f1 b b1) f2 (fun o o1 o2 => by omega)
      · unfold mP; rw [if_pos e]
      · unfold mP; rw [if_neg e]; exact hp.2 e
      · by_cases e1 : p.1 = -1
        · have e2 := hp.1 e1
          rw [if_pos (by omega)] at g
          have k0 := g (v := v2) z1 ⟨fun q => by simp only at q; omega, fun _ => z2⟩ (Or.inr hdg) (fun _ q => by simp only at q; omega)
          unfold mP at k0
          rw [if_neg (fun q => by simp only at q; omega)] at k0
          rw [if_pos (Or.inl e1), if_pos (Or.inl e1)]
          exact k0
        · have em : mP p = p.2 := by unfold mP; rw [if_neg e1]
          rw [em]
          by_cases hlt : p.2 < sLdF W S c i
          · rw [if_pos hlt] at g
            have k0 := g (v := v2) z1 ⟨fun q => by simp only at q; omega, fun _ => z2⟩ (Or.inr hdg) (fun _ q => by simp only at q; omega)
            unfold mP at k0
            rw [if_neg (fun q => by simp only at q; omega)] at k0
            rw [if_pos (Or.inr hlt), if_pos (Or.inr hlt)]
            exact k0
          · rw [if_neg hlt] at g
            have k0 := g (v := v2) z1 hp hb (fun _ => e1)
            rw [em] at k0
            rw [if_neg (fun q => q.elim e1 hlt), if_neg (fun q => q.elim e1 hlt)]
            exact k0
theorem lam_37 {k : Int} {v0 : zH} {QX : Nat → zH → Prop} (hQ0 : QM v0 W c S) (hs : 1 ≤ wS W ∧ wS W ≤ 3) (hN : 1 ≤ wN W ∧ wN W ≤ 6) (hL : LDp v0 v W c S)
    (K : ∀ v' : zH, Fz v0 v' → QM v' W c S → Q (if k = 0 then (sLad W S c ((wS W).toNat ^ (wN W).toNat)).1 else (sLad W S c ((wS W).toNat ^ (wN W).toNat)).2) v') :
    ∀ (m i : Nat), (i : Int) + m = wN W → zJ l G 1 (d + 10) h_M_laid k_M_laid 115 Q QX 37 [(2, 77), (0, k), (0, wN W), (0, (((wS W).toNat ^ i : Nat) : Int)), (0, (i : Int)), (3, 0), (3, 0), (3, 0), (3, 0)] [] v 115
  | m, i, hi => by
    have hM : v 77 30 = wS W := by
      obtain ⟨l1, ⟨c1, l2, -⟩, -⟩ := hL
      exact l2.1.2.1.1
    match m, hi with
    | 0, hi =>
      have e : i = (wN W).toNat := by omega
      have p1 : 1 ≤ (wS W).toNat ^ i := Nat.one_le_pow _ _ (by omega)
      have p2 : (wS W).toNat ^ i ≤ 729 := Nat.le_trans (Nat.pow_le_pow_left (by omega : (wS W).toNat ≤ 3) i) (Nat.le_trans (Nat.pow_le_pow_right (by omega) (by omega : i ≤ 6)) (by decide))
      rw [← e] at K
      refine zgo ck_M_laid 300 37 _ _ _ _ rfl (sg_M_laid_37 ?_)
      try simp (disch := omega) only [zup_e, zup_ak, zup_j, Int.zero_add, Int.reduceAdd, mz78, mz79, mz80, mz81, mz82, mz83, mz84, mz85, mz86, mz87, mz88, mz89, mz90, mz91, mz92, mz93, mz94, mz95, mz96, mz97, mz98, mz99, mz100, mz101, mz102, mz103, mz104, mz105, mz106, mz107, mz108, mz109, mz110, mz111, mz112, mz113]
      refine ⟨fun q1 => ?_, fun q2 => ⟨by first | decide | omega | contradiction | exact absurd trivial (by assumption), ⟨by first | decide | omega | contradiction | exact absurd trivial (by assumption), by first | decide | omega | contradiction | exact absurd trivial (by assumption)⟩, ⟨by first | decide | omega | contradiction | exact absurd trivial (by assumption), by first | decide | omega | contradiction | exact absurd trivial (by assumption)⟩, ?_⟩⟩
      try (any_goals (exfalso; first | omega | exact absurd trivial (by assumption)))
      exact lam_53 hQ0 hs hN ⟨p1, p2⟩ K ((wS W).toNat ^ i) 0 (by omega) hL ⟨fun _ => rfl, fun q => absurd rfl q⟩ (Or.inl rfl) (fun q => absurd q (by omega))
    | m + 1, hi =>
      have p1 : 1 ≤ (wS W).toNat ^ (i + 1) := Nat.one_le_pow _ _ (by omega)
      have p2 : (wS W).toNat ^ (i + 1) ≤ 729 := Nat.le_trans (Nat.pow_le_pow_left (by omega : (wS W).toNat ≤ 3) _) (Nat.le_trans (Nat.pow_le_pow_right (by omega) (by omega : i + 1 ≤ 6)) (by decide))
      have next := lam_37 (QX := QX) hQ0 hs hN hL K m (i + 1) (by omega)
      have ei : ((i + 1 : Nat) : Int) = (i : Int) + 1 := by omega
      have ep : (((wS W).toNat ^ (i + 1) : Nat) : Int) = (((wS W).toNat ^ i : Nat) : Int) * wS W := by
        rw [Nat.pow_succ, Int.natCast_mul]
        have : (((wS W).toNat : Nat) : Int) = wS W := by omega
        rw [this]
      have pb : (((wS W).toNat ^ i : Nat) : Int) * wS W ≤ 729 := by rw [← ep]; omega
      have pb0 : 0 ≤ (((wS W).toNat ^ i : Nat) : Int) * wS W := by rw [← ep]; omega
      rw [ei, ep] at next
      refine zgo ck_M_laid 300 37 _ _ _ _ rfl (sg_M_laid_37 ?_)
      try simp (disch := omega) only [zup_e, zup_ak, zup_j, Int.zero_add, Int.reduceAdd, mz78, mz79, mz80, mz81, mz82, mz83, mz84, mz85, mz86, mz87, mz88, mz89, mz90, mz91, mz92, mz93, mz94, mz95, mz96, mz97, mz98, mz99, mz100, mz101, mz102, mz103, mz104, mz105, mz106, mz107, mz108, mz109, mz110, mz111, mz112, mz113, hM]
      refine ⟨fun q1 => ?_, fun q2 => ⟨by first | decide | omega | contradiction | exact absurd trivial (by assumption), ⟨by first | decide | omega | contradiction | exact absurd trivial (by assumption), by first | decide | omega | contradiction | exact absurd trivial (by assumption)⟩, ⟨by first | decide | omega | contradiction | exact absurd trivial (by assumption), by first | decide | omega | contradiction | exact absurd trivial (by assumption)⟩, ?_⟩⟩
      try (any_goals (exfalso; first | omega | exact absurd trivial (by assumption)))
      exact next
theorem c_M_laid {k : Int} (hQ : QM v W c S) (K : ∀ v' : zH, Fz v v' → QM v' W c S → Q (aLaid W S c k) v') : zC l G 1 (d + 10) h_M_laid [(2, 77), (0, k)] v 115 Q := by
  obtain ⟨hW, hM, hc, -⟩ := id hQ.1
  have hR := hW.1
  have hN4 := hW.2.2.2.1
  have hS4 := hW.2.2.2.2.2.2.1
  have hw1 := hW.2.2.2.2.1
  have eN : wR W * wC W = wN W := hW.2.2.1.symm
  unfold aLaid at K
  refine zC_at ok_M_laid ck_M_laid rfl rfl (sg_M_laid_0 ?_)
  try simp (disch := omega) only [zup_e, zup_ak, zup_j, Int.zero_add, Int.reduceAdd, mz78, mz79, mz80, mz81, mz82, mz83, mz84, mz85, mz86, mz87, mz88, mz89, mz90, mz91, mz92, mz93, mz94, mz95, mz96, mz97, mz98, mz99, mz100, mz101, mz102, mz103, mz104, mz105, mz106, mz107, mz108, mz109, mz110, mz111, mz112, mz113, hM.1, hM.2.1, hM.2.2.1, eN]
  refine ⟨by first | decide | omega | contradiction | exact absurd trivial (by assumption), by first | decide | omega | contradiction | exact absurd trivial (by assumption), ⟨by first | decide | omega | contradiction | exact absurd trivial (by assumption), by first | decide | omega | contradiction | exact absurd trivial (by assumption)⟩, by first | decide | omega | contradiction | exact absurd trivial (by assumption), ⟨fun q1 => ?_, fun q2 => ⟨fun q3 => ?_, fun q4 => ⟨by first | decide | omega | contradiction | exact absurd trivial (by assumption), ⟨fun q5 => ?_, fun q6 => ?_⟩⟩⟩⟩⟩
  try (any_goals (exfalso; first | omega | exact absurd trivial (by assumption)))
  · rw [if_neg (fun q => by omega)] at K
    exact K _ Fz_rf hQ
  · rw [if_neg (fun q => by omega)] at K
    exact K _ Fz_rf hQ
  · rw [if_neg (fun q => by omega)] at K
    exact K _ Fz_rf hQ
  refine c_M_in ?_
  by_cases hk : 0 ≤ k ∧ k ≤ 1
  rotate_left
  · rw [if_neg hk]
    rw [if_neg (fun q => hk q.2.2)] at K
    refine ⟨fun q1 => ⟨by first | decide | omega | contradiction | exact absurd trivial (by assumption), by first | decide | omega | contradiction | exact absurd trivial (by assumption), ?_⟩, fun q2 => ?_⟩
    try (any_goals (exfalso; first | omega | exact absurd trivial (by assumption)))
    exact K v Fz_rf hQ
  rw [if_pos hk]
  rw [if_pos ⟨by omega, by omega, hk⟩] at K
  refine ⟨fun q1 => ⟨by first | decide | omega | contradiction | exact absurd trivial (by assumption), by first | decide | omega | contradiction | exact absurd trivial (by assumption), ?_⟩, fun q2 => ?_⟩
  try (any_goals (exfalso; first | omega | exact absurd trivial (by assumption)))
  refine c_M_copy (n := 36) (by decide) (by decide) (by omega) (by omega) (fun v1 f1 f2 => ?_)
  refine ⟨by first | decide | omega | contradiction | exact absurd trivial (by assumption), by first | decide | omega | contradiction | exact absurd trivial (by assumption), ?_⟩
  refine c_M_copy (n := 36) (by decide) (by decide) (by omega) (by omega) (fun v2 f3 f4 => ?_)
  have hF : ∀ b : Int, b ≠ 105 → b ≠ 106 → v2 b = v b := fun b b1 b2 => by rw [f3 b b2, f1 b b1]
  have hQ2 : QM v2 W c S := QM_1 (x := 106) (by omega) f3 (QM_1 (x := 105) (by omega) f1 hQ)
  have hL : LDp v v2 W c S := ⟨Fz_tr (Fz_1 (x := 105) (by omega) f1) (Fz_1 (x := 106) (by omega) f3), ⟨c, hQ2, rfl, rfl, rfl⟩, fun a a1 a2 => ⟨by rw [f3 105 (by omega)]; exact f2 a a1 a2, by rw [f4 a a1 a2, f1 97 (by omega)]⟩⟩
  exact lam_37 (k := k) hQ (by omega) (by omega) hL K (wN W).toNat 0 (by omega)
end
