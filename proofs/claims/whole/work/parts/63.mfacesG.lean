/-! THE REFERENCE: questions G: an oven's hours, days alike -/
theorem xor24F : ∀ x : Fin 47, (0 ≤ zxor (((x.val : Nat) : Int) - 23) 24 ↔ 0 ≤ ((x.val : Nat) : Int) - 23) := by decide +kernel
theorem xor24 {a : Int} (h : -23 ≤ a ∧ a ≤ 23) : 0 ≤ zxor a 24 ↔ 0 ≤ a := by
  have := xor24F ⟨(a + 23).toNat, by omega⟩
  have e : (((a + 23).toNat : Nat) : Int) - 23 = a := by omega
  simp only [e] at this
  exact this
theorem upf_id {f : Int → Int} {j : Int} : upf f j (f j) = f := by
  funext i
  unfold upf
  split
  · rename_i h; rw [h]
  · rfl
theorem upf_2 {f : Int → Int} {j x y : Int} : upf (upf f j x) j y = upf f j y := by
  funext i
  unfold upf
  split <;> rfl
theorem cOvn_id {c : zCo} {o : Int} : cOvn c o (cF c o) (cU c o) = c := by
  show (cH c, cW c, cS c, upf (cF c) o (cF c o), upf (cU c) o (cU c o)) = c
  rw [upf_id, upf_id]
  rfl
section
variable {l : Launch} {G : zG} {d : Nat} {v : zH} {Q : Int → zH → Prop} {W : zWl} {c : zCo} {S : zSk}
theorem c_fm24 {a : Int} (h : -23 ≤ a ∧ a ≤ 23) (K : Q (a % 24) v) : zC l G 1 (d + 1) h_Math_floorMod [(0, a), (0, 24)] v 115 Q := by
  have hx := xor24 h
  by_cases h0 : 0 ≤ a
  · have e : a.tmod 24 = a % 24 := ztm h0
    have h1 : a.tdiv 24 = 0 := Int.tdiv_eq_zero_of_lt h0 (by omega)
    rw [← e] at K
    refine zC_at ok_Math_floorMod ck_Math_floorMod rfl rfl (sg_Math_floorMod_0 ?_)
    refine ⟨by first | decide | omega | contradiction | exact absurd trivial (by assumption), ⟨by first | decide | omega | contradiction | exact absurd trivial (by assumption), by first | decide | omega | contradiction | exact absurd trivial (by assumption)⟩, ⟨fun q1 => ?_, fun q2 => ⟨fun q3 => ?_, fun q4 => ⟨⟨by first | decide | omega | contradiction | exact absurd trivial (by assumption), by first | decide | omega | contradiction | exact absurd trivial (by assumption)⟩, ?_⟩⟩⟩⟩
    try (any_goals (exfalso; first | omega | exact absurd trivial (by assumption)))
    exact K
  · have h1 : (-a).tdiv 24 = 0 := Int.tdiv_eq_zero_of_lt (by omega) (by omega)
    rw [Int.neg_tdiv] at h1
    have h2 : a.tdiv 24 = 0 := by omega
    have h3 : a.tmod 24 = a := by
      have := Int.mul_tdiv_add_tmod a 24
      rw [h2] at this
      omega
    have e : a % 24 = a.tmod 24 + 24 := by omega
    rw [e] at K
    refine zC_at ok_Math_floorMod ck_Math_floorMod rfl rfl (sg_Math_floorMod_0 ?_)
    refine ⟨by first | decide | omega | contradiction | exact absurd trivial (by assumption), ⟨by first | decide | omega | contradiction | exact absurd trivial (by assumption), by first | decide | omega | contradiction | exact absurd trivial (by assumption)⟩, ⟨fun q1 => ?_, fun q2 => ⟨fun q3 => ?_, fun q4 => ⟨⟨by first | decide | omega | contradiction | exact absurd trivial (by assumption), by first | decide | omega | contradiction | exact absurd trivial (by assumption)⟩, ?_⟩⟩⟩⟩
    try (any_goals (exfalso; first | omega | exact absurd trivial (by assumption)))
    exact K
theorem QM_ovn {o f0 u0 f u : Int} (ho : 0 ≤ o ∧ o < wO W) (hc : Cok W c) (hf : 0 ≤ f ∧ f ≤ 23) (hu : 0 ≤ u ∧ u ≤ 23) (hQ : QM v W (cOvn c o f0 u0) S) : QM (zupd (zupd v 94 (5 * o + 2) f) 94 (5 * o + 3) u) W (cOvn c o f u) S := by
  obtain ⟨⟨hW, hM, hc1, hO, hk, hS⟩, q2', q3'⟩ := hQ
  have hF : ∀ b : Int, b ≠ 94 → (zupd (zupd v 94 (5 * o + 2) f) 94 (5 * o + 3) u) b = v b := fun b q => by rw [zup_a q, zup_a q]
  have hcO := Cok_ovn (o := o) hc hf hu
  refine ⟨⟨hW, MW_fr (fun j _ _ => by rw [hF 77 (by omega)]) (hF 93 (by omega)) (fun k h1 h2 => ⟨?_, ?_, ?_⟩) (hF 95 (by omega)) hM, hcO, ⟨?_, fun b hb => ?_, fun k h1 h2 => ⟨fun q => ?_, fun q => ⟨?_, ?_⟩⟩⟩, hk, MS_fr ⟨by rw [hF 77 (by omega)], by rw [hF 77 (by omega)], by rw [hF 77 (by omega)]⟩ (hF 79 (by omega)) (hF 80 (by omega)) (hF 82 (by omega)) (hF 83 (by omega)) (hF 84 (by omega)) (hF 85 (by omega)) hS⟩, by rw [hF 77 (by omega)]; exact q2', q3'⟩
  · rw [zup_j (by omega), zup_j (by omega)]
  · rw [zup_j (by omega), zup_j (by omega)]
  · rw [zup_j (by omega), zup_j (by omega)]
  · rw [hF 77 (by omega)]; exact hO.1
  · rw [hF 97 (by omega), hF 96 (by omega)]; exact hO.2.1 b hb
  · rw [hF 77 (by omega), q2'] at q; omega
  · have h := (hO.2.2 k h1 h2).2 (by rw [q2']; omega)
    have h : v 94 (5 * k + 2) = upf (cF c) o f0 k ∧ v 94 (5 * k + 3) = upf (cU c) o u0 k := h
    show _ = upf (cF c) o f k
    by_cases e : k = o
    · rw [e, upf_s, zup_j (by omega), zup_s]
    · rw [upf_n e, zup_j (by omega), zup_j (by omega), h.1, upf_n e]
  · have h := (hO.2.2 k h1 h2).2 (by rw [q2']; omega)
    have h : v 94 (5 * k + 2) = upf (cF c) o f0 k ∧ v 94 (5 * k + 3) = upf (cU c) o u0 k := h
    show _ = upf (cU c) o u k
    by_cases e : k = o
    · rw [e, upf_s, zup_s]
    · rw [upf_n e, zup_j (by omega), zup_j (by omega), h.2, upf_n e]
theorem c_M_comfortAt {a : Int} (hQ : QM v W c S) (ha : isc (wR W) (wC W) a = true) (K : ∀ v' : zH, Fz v v' → QM v' W c S → Q (sNi W (sSn S) (kR S) c (ixn (wC W) a)) v') : zC l G 1 (d + 9) h_M_comfortAt [(2, 77), (0, a)] v 115 Q := by
  have h36 := is36 hQ.1.1 ha
  refine zC_at ok_M_comfortAt ck_M_comfortAt rfl rfl (sg_M_comfortAt_0 ?_)
  try simp (disch := omega) only [zup_e, zup_ak, zup_j, Int.zero_add, Int.reduceAdd, mz78, mz79, mz80, mz81, mz82, mz83, mz84, mz85, mz86, mz87, mz88, mz89, mz90, mz91, mz92, mz93, mz94, mz95, mz96, mz97, mz98, mz99, mz100, mz101, mz102, mz103, mz104, mz105, mz106, mz107, mz108, mz109, mz110, mz111, mz112, mz113]
  refine ⟨by first | decide | omega | contradiction | exact absurd trivial (by assumption), ?_⟩
  refine m_ln hQ (fun v1 f1 f2 f3 => ?_)
  refine ⟨by first | decide | omega | contradiction | exact absurd trivial (by assumption), by first | decide | omega | contradiction | exact absurd trivial (by assumption), ⟨by first | decide | omega | contradiction | exact absurd trivial (by assumption), by first | decide | omega | contradiction | exact absurd trivial (by assumption)⟩, ?_⟩
  rw [f3 a ha]
  exact K v1 f1 f2
def mTi (p : Int × Int) : Int × Int := if p.1 = -1 then (0, -1) else p
theorem sTim_s {o a : Int} {i : Nat} : sTim W S c o a (i + 1) = if (sTim W S c o a i).1 = -1 ∨ (sTim W S c o a i).2 < sTmF W S c o a i then ((i : Int), sTmF W S c o a i) else sTim W S c o a i := rfl
theorem tim_49 {o a k f0 u0 : Int} {v0 : zH} {QX : Nat → zH → Prop} (ho : 0 ≤ o ∧ o < wO W) (ha : isc (wR W) (wC W) a = true) (hc : Cok W c) (hf0 : cF c o = f0) (hu0 : cU c o = u0) (K : ∀ v' : zH, Fz v0 v' → QM v' W c S → Q (if k = 0 then (sTim W S c o (ixn (wC W) a) 24).1 else (sTim W S c o (ixn (wC W) a) 24).2) v') :
    ∀ (m i : Nat) {f u : Int} {v : zH}, i + m = 24 → Fz v0 v → QM v W (cOvn c o f u) S → (1 ≤ i → (sTim W S c o (ixn (wC W) a) i).1 ≠ -1) → zJ l G 1 (d + 10) h_M_timing k_M_timing 115 Q QX 49 [(2, 77), (0, o), (0, a), (0, k), (0, f0), (0, u0), (0, (u0 - f0) % 24), (0, (mTi (sTim W S c o (ixn (wC W) a) i)).1), (0, (mTi (sTim W S c o (ixn (wC W) a) i)).2), (0, (i : Int)), (3, 0)] [] v 115
  | m, i, f, u, v, hi, hF, hQ, h1 => by
    have hW := hQ.1.1
    have h3 := hW.2.2.2.2.2.2.2.1
    have hco := hc.2.2 o ho.1 ho.2
    have h36 := is36 hW ha
    match m, hi with
    | 0, hi =>
      have e : i = 24 := by omega
      subst e
      have hne := h1 (by omega)
      have eT : mTi (sTim W S c o (ixn (wC W) a) 24) = sTim W S c o (ixn (wC W) a) 24 := by unfold mTi; rw [if_neg hne]
      have hQ2 := QM_ovn (f := f0) (u := u0) ho hc (by omega) (by omega) hQ
      rw [← hf0, ← hu0, cOvn_id, hf0, hu0] at hQ2
      have K := K _ (Fz_tr hF (Fz_1 (x := 94) (by omega) (fun b q => by rw [zup_a q, zup_a q]))) hQ2
      rw [eT]
      by_cases hk : k = 0
      · rw [if_pos hk] at K
        refine zgo ck_M_timing 300 49 _ _ _ _ rfl (sg_M_timing_49 ?_)
        try simp (disch := omega) only [zup_e, zup_ak, zup_j, Int.zero_add, Int.reduceAdd, mz78, mz79, mz80, mz81, mz82, mz83, mz84, mz85, mz86, mz87, mz88, mz89, mz90, mz91, mz92, mz93, mz94, mz95, mz96, mz97, mz98, mz99, mz100, mz101, mz102, mz103, mz104, mz105, mz106, mz107, mz108, mz109, mz110, mz111, mz112, mz113]
        refine ⟨fun q1 => ⟨by first | decide | omega | contradiction | exact absurd trivial (by assumption), ⟨by first | decide | omega | contradiction | exact absurd trivial (by assumption), by first | decide | omega | contradiction | exact absurd trivial (by assumption)⟩, ⟨by first | decide | omega | contradiction | exact absurd trivial (by assumption), by first | decide | omega | contradiction | exact absurd trivial (by assumption)⟩, by first | decide | omega | contradiction | exact absurd trivial (by assumption), ⟨by first | decide | omega | contradiction | exact absurd trivial (by assumption), by first | decide | omega | contradiction | exact absurd trivial (by assumption)⟩, by first | decide | omega | contradiction | exact absurd trivial (by assumption), ⟨by first | decide | omega | contradiction | exact absurd trivial (by assumption), by first | decide | omega | contradiction | exact absurd trivial (by assumption)⟩, ⟨by first | decide | omega | contradiction | exact absurd trivial (by assumption), by first | decide | omega | contradiction | exact absurd trivial (by assumption)⟩, by first | decide | omega | contradiction | exact absurd trivial (by assumption), ⟨by first | decide | omega | contradiction | exact absurd trivial (by assumption), by first | decide | omega | contradiction | exact absurd trivial (by assumption)⟩, ⟨fun q2 => ?_, fun q3 => ?_⟩⟩, fun q4 => ⟨by first | decide | omega | contradiction | exact absurd trivial (by assumption), ⟨by first | decide | omega | contradiction | exact absurd trivial (by assumption), by first | decide | omega | contradiction | exact absurd trivial (by assumption)⟩, ⟨by first | decide | omega | contradiction | exact absurd trivial (by assumption), by first | decide | omega | contradiction | exact absurd trivial (by assumption)⟩, by first | decide | omega | contradiction | exact absurd trivial (by assumption), ⟨by first | decide | omega | contradiction | exact absurd trivial (by assumption), by first | decide | omega | contradiction | exact absurd trivial (by assumption)⟩, by first | decide | omega | contradiction | exact absurd trivial (by assumption), ⟨by first | decide | omega | contradiction | exact absurd trivial (by assumption), by first | decide | omega | contradiction | exact absurd trivial (by assumption)⟩, ⟨by first | decide | omega | contradiction | exact absurd trivial (by assumption), by first | decide | omega | contradiction | exact absurd trivial (by assumption)⟩, ⟨by first | decide | omega | contradiction | exact absurd trivial (by assumption), by first | decide | omega | contradiction | exact absurd trivial (by assumption)⟩, by first | decide | omega | contradiction | exact absurd trivial (by assumption), ⟨by first | decide | omega | contradiction | exact absurd trivial (by assumption), by first | decide | omega | contradiction | exact absurd trivial (by assumption)⟩, by first | decide | omega | contradiction | exact absurd trivial (by assumption), ?_⟩⟩
        try (any_goals (exfalso; first | omega | exact absurd trivial (by assumption)))
        exact K
      · rw [if_neg hk] at K
        refine zgo ck_M_timing 300 49 _ _ _ _ rfl (sg_M_timing_49 ?_)
        try simp (disch := omega) only [zup_e, zup_ak, zup_j, Int.zero_add, Int.reduceAdd, mz78, mz79, mz80, mz81, mz82, mz83, mz84, mz85, mz86, mz87, mz88, mz89, mz90, mz91, mz92, mz93, mz94, mz95, mz96, mz97, mz98, mz99, mz100, mz101, mz102, mz103, mz104, mz105, mz106, mz107, mz108, mz109, mz110, mz111, mz112, mz113]
        refine ⟨fun q1 => ⟨by first | decide | omega | contradiction | exact absurd trivial (by assumption), ⟨by first | decide | omega | contradiction | exact absurd trivial (by assumption), by first | decide | omega | contradiction | exact absurd trivial (by assumption)⟩, ⟨by first | decide | omega | contradiction | exact absurd trivial (by assumption), by first | decide | omega | contradiction | exact absurd trivial (by assumption)⟩, by first | decide | omega | contradiction | exact absurd trivial (by assumption), ⟨by first | decide | omega | contradiction | exact absurd trivial (by assumption), by first | decide | omega | contradiction | exact absurd trivial (by assumption)⟩, by first | decide | omega | contradiction | exact absurd trivial (by assumption), ⟨by first | decide | omega | contradiction | exact absurd trivial (by assumption), by first | decide | omega | contradiction | exact absurd trivial (by assumption)⟩, ⟨by first | decide | omega | contradiction | exact absurd trivial (by assumption), by first | decide | omega | contradiction | exact absurd trivial (by assumption)⟩, by first | decide | omega | contradiction | exact absurd trivial (by assumption), ⟨by first | decide | omega | contradiction | exact absurd trivial (by assumption), by first | decide | omega | contradiction | exact absurd trivial (by assumption)⟩, ⟨fun q2 => ?_, fun q3 => ?_⟩⟩, fun q4 => ⟨by first | decide | omega | contradiction | exact absurd trivial (by assumption), ⟨by first | decide | omega | contradiction | exact absurd trivial (by assumption), by first | decide | omega | contradiction | exact absurd trivial (by assumption)⟩, ⟨by first | decide | omega | contradiction | exact absurd trivial (by assumption), by first | decide | omega | contradiction | exact absurd trivial (by assumption)⟩, by first | decide | omega | contradiction | exact absurd trivial (by assumption), ⟨by first | decide | omega | contradiction | exact absurd trivial (by assumption), by first | decide | omega | contradiction | exact absurd trivial (by assumption)⟩, by first | decide | omega | contradiction | exact absurd trivial (by assumption), ⟨by first | decide | omega | contradiction | exact absurd trivial (by assumption), by first | decide | omega | contradiction | exact absurd trivial (by assumption)⟩, ⟨by first | decide | omega | contradiction | exact absurd trivial (by assumption), by first | decide | omega | contradiction | exact absurd trivial (by assumption)⟩, ⟨by first | decide | omega | contradiction | exact absurd trivial (by assumption), by first | decide | omega | contradiction | exact absurd trivial (by assumption)⟩, by first | decide | omega | contradiction | exact absurd trivial (by assumption), ⟨by first | decide | omega | contradiction | exact absurd trivial (by assumption), by first | decide | omega | contradiction | exact absurd trivial (by assumption)⟩, by first | decide | omega | contradiction | exact absurd trivial (by assumption), ?_⟩⟩
        try (any_goals (exfalso; first | omega | exact absurd trivial (by assumption)))
        exact K
    | m + 1, hi =>
      have g := fun {f u : Int} {v : zH} => tim_49 (f := f) (u := u) (v := v) (QX := QX) ho ha hc hf0 hu0 K m (i + 1) (by omega)
      have eu : ((i : Int) + (u0 - f0) % 24).tmod 24 = (i + (u0 - f0 + 24)) % 24 := by rw [ztm (by omega)]; omega
      have hQ2 := QM_ovn (f := (i : Int)) (u := (i + (u0 - f0 + 24)) % 24) ho hc (by omega) (by omega) hQ
      have eF : sNi W (sSn S) (kR S) (cOvn c o i ((i + (u0 - f0 + 24)) % 24)) (ixn (wC W) a) = sTmF W S c o (ixn (wC W) a) i := by unfold sTmF; rw [hf0, hu0]
      have hb := sNi_b (sn := sSn S) (rn := kR S) snOk_S hW (Cok_ovn (o := o) (f := (i : Int)) (u := (i + (u0 - f0 + 24)) % 24) hc (by omega) (by omega)) (by have := hQ.2.2; have e : cH (cOvn c o f u) = cH c := rfl; have e2 : cH (cOvn c o i ((i + (u0 - f0 + 24)) % 24)) = cH c := rfl; omega) h36.2.2.1 h36.2.2.2
      rw [eF] at hb
      rw [sTim_s] at g
      generalize sTim W S c o (ixn (wC W) a) i = p at g h1 ⊢
      have take : (p.1 = -1 ∨ p.2 < sTmF W S c o (ixn (wC W) a) i) → ∀ {v : zH}, Fz v0 v → QM v W (cOvn c o i ((i + (u0 - f0 + 24)) % 24)) S → zJ l G 1 (d + 10) h_M_timing k_M_timing 115 Q QX 49 [(2, 77), (0, o), (0, a), (0, k), (0, f0), (0, u0), (0, (u0 - f0) % 24), (0, (i : Int)), (0, sTmF W S c o (ixn (wC W) a) i), (0, (i : Int) + 1), (3, 0)] [] v 115 := fun q {v} z1 z2 => by
        rw [if_pos q] at g
        have k0 := g z1 z2 (fun _ e => by simp only at e; omega)
        unfold mTi at k0
        rw [if_neg (fun e => by simp only at e; omega)] at k0
        exact k0
      have keep : ¬ (p.1 = -1 ∨ p.2 < sTmF W S c o (ixn (wC W) a) i) → ∀ {v : zH}, Fz v0 v → QM v W (cOvn c o i ((i + (u0 - f0 + 24)) % 24)) S → zJ l G 1 (d + 10) h_M_timing k_M_timing 115 Q QX 49 [(2, 77), (0, o), (0, a), (0, k), (0, f0), (0, u0), (0, (u0 - f0) % 24), (0, (mTi p).1), (0, (mTi p).2), (0, (i : Int) + 1), (3, 0)] [] v 115 := fun q {v} z1 z2 => by
        rw [if_neg q] at g
        exact g z1 z2 (fun _ e => q (Or.inl e))
      have hF2 : Fz v0 (zupd (zupd v 94 (5 * o + 2) i) 94 (5 * o + 3) ((i + (u0 - f0 + 24)) % 24)) := Fz_tr hF (Fz_1 (x := 94) (by omega) (fun b q => by rw [zup_a q, zup_a q]))
      by_cases hp : p.1 = -1
      · have eT : mTi p = (0, -1) := by unfold mTi; rw [if_pos hp]
        rw [eT]
        refine zgo ck_M_timing 300 49 _ _ _ _ rfl (sg_M_timing_49 ?_)
        try simp (disch := omega) only [zup_e, zup_ak, zup_j, Int.zero_add, Int.reduceAdd, mz78, mz79, mz80, mz81, mz82, mz83, mz84, mz85, mz86, mz87, mz88, mz89, mz90, mz91, mz92, mz93, mz94, mz95, mz96, mz97, mz98, mz99, mz100, mz101, mz102, mz103, mz104, mz105, mz106, mz107, mz108, mz109, mz110, mz111, mz112, mz113, eu]
        refine ⟨fun q1 => ⟨by first | decide | omega | contradiction | exact absurd trivial (by assumption), ⟨by first | decide | omega | contradiction | exact absurd trivial (by assumption), by first | decide | omega | contradiction | exact absurd trivial (by assumption)⟩, ⟨by first | decide | omega | contradiction | exact absurd trivial (by assumption), by first | decide | omega | contradiction | exact absurd trivial (by assumption)⟩, by first | decide | omega | contradiction | exact absurd trivial (by assumption), ⟨by first | decide | omega | contradiction | exact absurd trivial (by assumption), by first | decide | omega | contradiction | exact absurd trivial (by assumption)⟩, by first | decide | omega | contradiction | exact absurd trivial (by assumption), ⟨by first | decide | omega | contradiction | exact absurd trivial (by assumption), by first | decide | omega | contradiction | exact absurd trivial (by assumption)⟩, ⟨by first | decide | omega | contradiction | exact absurd trivial (by assumption), by first | decide | omega | contradiction | exact absurd trivial (by assumption)⟩, by first | decide | omega | contradiction | exact absurd trivial (by assumption), ⟨by first | decide | omega | contradiction | exact absurd trivial (by assumption), by first | decide | omega | contradiction | exact absurd trivial (by assumption)⟩, ⟨fun q2 => ?_, fun q3 => ?_⟩⟩, fun q4 => ⟨by first | decide | omega | contradiction | exact absurd trivial (by assumption), ⟨by first | decide | omega | contradiction | exact absurd trivial (by assumption), by first | decide | omega | contradiction | exact absurd trivial (by assumption)⟩, ⟨by first | decide | omega | contradiction | exact absurd trivial (by assumption), by first | decide | omega | contradiction | exact absurd trivial (by assumption)⟩, by first | decide | omega | contradiction | exact absurd trivial (by assumption), ⟨by first | decide | omega | contradiction | exact absurd trivial (by assumption), by first | decide | omega | contradiction | exact absurd trivial (by assumption)⟩, by first | decide | omega | contradiction | exact absurd trivial (by assumption), ⟨by first | decide | omega | contradiction | exact absurd trivial (by assumption), by first | decide | omega | contradiction | exact absurd trivial (by assumption)⟩, ⟨by first | decide | omega | contradiction | exact absurd trivial (by assumption), by first | decide | omega | contradiction | exact absurd trivial (by assumption)⟩, ⟨by first | decide | omega | contradiction | exact absurd trivial (by assumption), by first | decide | omega | contradiction | exact absurd trivial (by assumption)⟩, by first | decide | omega | contradiction | exact absurd trivial (by assumption), ⟨by first | decide | omega | contradiction | exact absurd trivial (by assumption), by first | decide | omega | contradiction | exact absurd trivial (by assumption)⟩, by first | decide | omega | contradiction | exact absurd trivial (by assumption), ?_⟩⟩
        try (any_goals (exfalso; first | omega | exact absurd trivial (by assumption)))
        refine c_M_comfortAt hQ2 ha (fun v1 f1 f2 => ?_)
        rw [eF]
        have k0 := take (Or.inl hp) (Fz_tr hF2 f1) f2
        refine ⟨fun q1 => ⟨⟨by first | decide | omega | contradiction | exact absurd trivial (by assumption), by first | decide | omega | contradiction | exact absurd trivial (by assumption)⟩, ?_⟩, fun q2 => ⟨⟨by first | decide | omega | contradiction | exact absurd trivial (by assumption), by first | decide | omega | contradiction | exact absurd trivial (by assumption)⟩, ?_⟩⟩
        try (any_goals (exfalso; first | omega | exact absurd trivial (by assumption)))
        exact k0
      · have eT : mTi p = p := by unfold mTi; rw [if_neg hp]
        rw [eT] at keep ⊢
        refine zgo ck_M_timing 300 49 _ _ _ _ rfl (sg_M_timing_49 ?_)
        try simp (disch := omega) only [zup_e, zup_ak, zup_j, Int.zero_add, Int.reduceAdd, mz78, mz79, mz80, mz81, mz82, mz83, mz84, mz85, mz86, mz87, mz88, mz89, mz90, mz91, mz92, mz93, mz94, mz95, mz96, mz97, mz98, mz99, mz100, mz101, mz102, mz103, mz104, mz105, mz106, mz107, mz108, mz109, mz110, mz111, mz112, mz113, eu]
        refine ⟨fun q1 => ⟨by first | decide | omega | contradiction | exact absurd trivial (by assumption), ⟨by first | decide | omega | contradiction | exact absurd trivial (by assumption), by first | decide | omega | contradiction | exact absurd trivial (by assumption)⟩, ⟨by first | decide | omega | contradiction | exact absurd trivial (by assumption), by first | decide | omega | contradiction | exact absurd trivial (by assumption)⟩, by first | decide | omega | contradiction | exact absurd trivial (by assumption), ⟨by first | decide | omega | contradiction | exact absurd trivial (by assumption), by first | decide | omega | contradiction | exact absurd trivial (by assumption)⟩, by first | decide | omega | contradiction | exact absurd trivial (by assumption), ⟨by first | decide | omega | contradiction | exact absurd trivial (by assumption), by first | decide | omega | contradiction | exact absurd trivial (by assumption)⟩, ⟨by first | decide | omega | contradiction | exact absurd trivial (by assumption), by first | decide | omega | contradiction | exact absurd trivial (by assumption)⟩, by first | decide | omega | contradiction | exact absurd trivial (by assumption), ⟨by first | decide | omega | contradiction | exact absurd trivial (by assumption), by first | decide | omega | contradiction | exact absurd trivial (by assumption)⟩, ⟨fun q2 => ?_, fun q3 => ?_⟩⟩, fun q4 => ⟨by first | decide | omega | contradiction | exact absurd trivial (by assumption), ⟨by first | decide | omega | contradiction | exact absurd trivial (by assumption), by first | decide | omega | contradiction | exact absurd trivial (by assumption)⟩, ⟨by first | decide | omega | contradiction | exact absurd trivial (by assumption), by first | decide | omega | contradiction | exact absurd trivial (by assumption)⟩, by first | decide | omega | contradiction | exact absurd trivial (by assumption), ⟨by first | decide | omega | contradiction | exact absurd trivial (by assumption), by first | decide | omega | contradiction | exact absurd trivial (by assumption)⟩, by first | decide | omega | contradiction | exact absurd trivial (by assumption), ⟨by first | decide | omega | contradiction | exact absurd trivial (by assumption), by first | decide | omega | contradiction | exact absurd trivial (by assumption)⟩, ⟨by first | decide | omega | contradiction | exact absurd trivial (by assumption), by first | decide | omega | contradiction | exact absurd trivial (by assumption)⟩, ⟨by first | decide | omega | contradiction | exact absurd trivial (by assumption), by first | decide | omega | contradiction | exact absurd trivial (by assumption)⟩, by first | decide | omega | contradiction | exact absurd trivial (by assumption), ⟨by first | decide | omega | contradiction | exact absurd trivial (by assumption), by first | decide | omega | contradiction | exact absurd trivial (by assumption)⟩, by first | decide | omega | contradiction | exact absurd trivial (by assumption), ?_⟩⟩
        try (any_goals (exfalso; first | omega | exact absurd trivial (by assumption)))
        refine c_M_comfortAt hQ2 ha (fun v1 f1 f2 => ?_)
        rw [eF]
        by_cases hlt : p.2 < sTmF W S c o (ixn (wC W) a) i
        · have k0 := take (Or.inr hlt) (Fz_tr hF2 f1) f2
          refine ⟨fun q1 => ⟨⟨by first | decide | omega | contradiction | exact absurd trivial (by assumption), by first | decide | omega | contradiction | exact absurd trivial (by assumption)⟩, ?_⟩, fun q2 => ⟨⟨by first | decide | omega | contradiction | exact absurd trivial (by assumption), by first | decide | omega | contradiction | exact absurd trivial (by assumption)⟩, ?_⟩⟩
          try (any_goals (exfalso; first | omega | exact absurd trivial (by assumption)))
          exact k0
        · have k0 := keep (fun q => q.elim hp hlt) (Fz_tr hF2 f1) f2
          refine ⟨fun q1 => ⟨⟨by first | decide | omega | contradiction | exact absurd trivial (by assumption), by first | decide | omega | contradiction | exact absurd trivial (by assumption)⟩, ?_⟩, fun q2 => ⟨⟨by first | decide | omega | contradiction | exact absurd trivial (by assumption), by first | decide | omega | contradiction | exact absurd trivial (by assumption)⟩, ?_⟩⟩
          try (any_goals (exfalso; first | omega | exact absurd trivial (by assumption)))
          exact k0
theorem c_M_timing {o a k : Int} (hQ : QM v W c S) (K : ∀ v' : zH, Fz v v' → QM v' W c S → Q (aTiming W S c o a k) v') : zC l G 1 (d + 10) h_M_timing [(2, 77), (0, o), (0, a), (0, k)] v 115 Q := by
  obtain ⟨hW, hM, hc, hO, -⟩ := id hQ.1
  have h3 := hW.2.2.2.2.2.2.2.1
  unfold aTiming at K
  refine zC_at ok_M_timing ck_M_timing rfl rfl (sg_M_timing_0 ?_)
  try simp (disch := omega) only [zup_e, zup_ak, zup_j, Int.zero_add, Int.reduceAdd, mz78, mz79, mz80, mz81, mz82, mz83, mz84, mz85, mz86, mz87, mz88, mz89, mz90, mz91, mz92, mz93, mz94, mz95, mz96, mz97, mz98, mz99, mz100, mz101, mz102, mz103, mz104, mz105, mz106, mz107, mz108, mz109, mz110, mz111, mz112, mz113, hM.2.2.2.1]
  refine ⟨by first | decide | omega | contradiction | exact absurd trivial (by assumption), ⟨by first | decide | omega | contradiction | exact absurd trivial (by assumption), by first | decide | omega | contradiction | exact absurd trivial (by assumption)⟩, ?_⟩
  try (any_goals (exfalso; first | omega | exact absurd trivial (by assumption)))
  refine c_M_in ?_
  by_cases ho : 0 ≤ o ∧ o < wO W
  rotate_left
  · rw [if_neg (by omega)]
    rw [if_neg (fun q => ho q.1)] at K
    refine ⟨fun q1 => ?_, fun q2 => ⟨by first | decide | omega | contradiction | exact absurd trivial (by assumption), ?_⟩⟩
    try (any_goals (exfalso; first | omega | exact absurd trivial (by assumption)))
    exact K v Fz_rf hQ
  rw [if_pos (by omega)]
  refine ⟨fun q1 => ?_, fun q2 => ⟨by first | decide | omega | contradiction | exact absurd trivial (by assumption), ?_⟩⟩
  try (any_goals (exfalso; first | omega | exact absurd trivial (by assumption)))
  refine m_cell hM ?_
  by_cases ha : isc (wR W) (wC W) a = true
  rotate_left
  · rw [if_neg ha]
    rw [if_neg (fun q => ha q.2.1)] at K
    refine ⟨fun q1 => ?_, fun q2 => ?_⟩
    try (any_goals (exfalso; first | omega | exact absurd trivial (by assumption)))
    exact K v Fz_rf hQ
  rw [if_pos ha]
  refine ⟨fun q1 => ?_, fun q2 => ?_⟩
  try (any_goals (exfalso; first | omega | exact absurd trivial (by assumption)))
  refine c_M_in ?_
  by_cases hk : 0 ≤ k ∧ k ≤ 1
  rotate_left
  · rw [if_neg hk]
    rw [if_neg (fun q => hk q.2.2)] at K
    refine ⟨fun q1 => ⟨by first | decide | omega | contradiction | exact absurd trivial (by assumption), ⟨by first | decide | omega | contradiction | exact absurd trivial (by assumption), by first | decide | omega | contradiction | exact absurd trivial (by assumption)⟩, ⟨by first | decide | omega | contradiction | exact absurd trivial (by assumption), by first | decide | omega | contradiction | exact absurd trivial (by assumption)⟩, by first | decide | omega | contradiction | exact absurd trivial (by assumption), ⟨by first | decide | omega | contradiction | exact absurd trivial (by assumption), by first | decide | omega | contradiction | exact absurd trivial (by assumption)⟩, by first | decide | omega | contradiction | exact absurd trivial (by assumption), ⟨by first | decide | omega | contradiction | exact absurd trivial (by assumption), by first | decide | omega | contradiction | exact absurd trivial (by assumption)⟩, ⟨by first | decide | omega | contradiction | exact absurd trivial (by assumption), by first | decide | omega | contradiction | exact absurd trivial (by assumption)⟩, by first | decide | omega | contradiction | exact absurd trivial (by assumption), ⟨by first | decide | omega | contradiction | exact absurd trivial (by assumption), by first | decide | omega | contradiction | exact absurd trivial (by assumption)⟩, ⟨by first | decide | omega | contradiction | exact absurd trivial (by assumption), by first | decide | omega | contradiction | exact absurd trivial (by assumption)⟩, ?_⟩, fun q2 => ?_⟩
    try (any_goals (exfalso; first | omega | exact absurd trivial (by assumption)))
    exact K v Fz_rf hQ
  rw [if_pos hk]
  rw [if_pos ⟨ho, ha, hk⟩] at K
  have eh := (hO.2.2 o ho.1 ho.2).2 (by rw [hQ.2.1]; omega)
  have hco := hc.2.2 o ho.1 ho.2
  show _
  simp only [eh.1, eh.2]
  refine ⟨fun q1 => ⟨by first | decide | omega | contradiction | exact absurd trivial (by assumption), ⟨by first | decide | omega | contradiction | exact absurd trivial (by assumption), by first | decide | omega | contradiction | exact absurd trivial (by assumption)⟩, ⟨by first | decide | omega | contradiction | exact absurd trivial (by assumption), by first | decide | omega | contradiction | exact absurd trivial (by assumption)⟩, by first | decide | omega | contradiction | exact absurd trivial (by assumption), ⟨by first | decide | omega | contradiction | exact absurd trivial (by assumption), by first | decide | omega | contradiction | exact absurd trivial (by assumption)⟩, by first | decide | omega | contradiction | exact absurd trivial (by assumption), ⟨by first | decide | omega | contradiction | exact absurd trivial (by assumption), by first | decide | omega | contradiction | exact absurd trivial (by assumption)⟩, ⟨by first | decide | omega | contradiction | exact absurd trivial (by assumption), by first | decide | omega | contradiction | exact absurd trivial (by assumption)⟩, by first | decide | omega | contradiction | exact absurd trivial (by assumption), ⟨by first | decide | omega | contradiction | exact absurd trivial (by assumption), by first | decide | omega | contradiction | exact absurd trivial (by assumption)⟩, ⟨by first | decide | omega | contradiction | exact absurd trivial (by assumption), by first | decide | omega | contradiction | exact absurd trivial (by assumption)⟩, ?_⟩, fun q2 => ?_⟩
  try (any_goals (exfalso; first | omega | exact absurd trivial (by assumption)))
  refine c_fm24 (by omega) ?_
  have g := tim_49 (l := l) (G := G) (d := d) (QX := fun _ _ => False) (v0 := v) (v := v) (f := cF c o) (u := cU c o) ho ha hc rfl rfl K 24 0 (by omega) Fz_rf (by rw [cOvn_id]; exact hQ) (fun q => absurd q (by omega))
  exact g
-- days that are alike
def DYp (v : zH) (W : zWl) (S : zSk) (c : zCo) (j : Int) : Prop := ∀ (i : Nat) (o : Int), (i : Int) < j → isc (wR W) (wC W) o = true → v 112 (36 * (i : Int) + o) = cW (sSt W (sSn S) (kR S) c (24 * i)) (ixn (wC W) o)
theorem alm_2 {i j : Nat} {QX : Nat → zH → Prop} (hW : Wok W) (hM : MW v W) (hD : DYp v W S c 21) (hi : i ≤ 20) (hj : j ≤ 20) (K : Q (if sLk W S c i j = true then 1 else 0) v) :
    ∀ (m n : Nat), n + m = 36 → (∀ o : Int, 0 ≤ o → o < n → isc (wR W) (wC W) o = true → cW (sSt W (sSn S) (kR S) c (24 * i)) (ixn (wC W) o) = cW (sSt W (sSn S) (kR S) c (24 * j)) (ixn (wC W) o)) → zJ l G 1 (d + 2) h_M_areLike k_M_areLike 115 Q QX 2 [(2, 77), (0, (i : Int)), (0, (j : Int)), (0, (n : Int))] [] v 115
  | m, n, hn, hp => by
    have z112 : zLN 112 = 756 := by decide
    match m, hn with
    | 0, hn =>
      have e : sLk W S c i j = true := by
        unfold sLk
        rw [zal_iff]
        intro a a1 a2
        have hN := hW.2.2.2.1
        have h := nm36 hW (b := a) (by omega)
        have := hp _ h.2.2.1 (by omega) h.1
        rw [h.2.1] at this
        exact decide_eq_true this
      rw [if_pos e] at K
      refine zgo ck_M_areLike 300 2 _ _ _ _ rfl (sg_M_areLike_2 ?_)
      try simp (disch := omega) only [zup_e, zup_ak, zup_j, Int.zero_add, Int.reduceAdd, mz78, mz79, mz80, mz81, mz82, mz83, mz84, mz85, mz86, mz87, mz88, mz89, mz90, mz91, mz92, mz93, mz94, mz95, mz96, mz97, mz98, mz99, mz100, mz101, mz102, mz103, mz104, mz105, mz106, mz107, mz108, mz109, mz110, mz111, mz112, mz113]
      refine ⟨fun q1 => ⟨by first | decide | omega | contradiction | exact absurd trivial (by assumption), ?_⟩, fun q2 => ⟨by first | decide | omega | contradiction | exact absurd trivial (by assumption), ?_⟩⟩
      try (any_goals (exfalso; first | omega | exact absurd trivial (by assumption)))
      exact K
    | m + 1, hn =>
      have g := alm_2 (QX := QX) hW hM hD hi hj K m (n + 1) (by omega)
      refine zgo ck_M_areLike 300 2 _ _ _ _ rfl (sg_M_areLike_2 ?_)
      try simp (disch := omega) only [zup_e, zup_ak, zup_j, Int.zero_add, Int.reduceAdd, mz78, mz79, mz80, mz81, mz82, mz83, mz84, mz85, mz86, mz87, mz88, mz89, mz90, mz91, mz92, mz93, mz94, mz95, mz96, mz97, mz98, mz99, mz100, mz101, mz102, mz103, mz104, mz105, mz106, mz107, mz108, mz109, mz110, mz111, mz112, mz113]
      refine ⟨fun q1 => ⟨by first | decide | omega | contradiction | exact absurd trivial (by assumption), ?_⟩, fun q2 => ⟨by first | decide | omega | contradiction | exact absurd trivial (by assumption), ?_⟩⟩
      try (any_goals (exfalso; first | omega | exact absurd trivial (by assumption)))
      refine m_cell hM ?_
      by_cases ho : isc (wR W) (wC W) n = true
      rotate_left
      · rw [if_neg ho]
        have k0 := g (fun o a1 a2 a3 => by
          by_cases e : o = n
          · rw [e] at a3; exact absurd a3 ho
          · exact hp o a1 (by omega) a3)
        refine ⟨fun q1 => ⟨⟨by first | decide | omega | contradiction | exact absurd trivial (by assumption), by first | decide | omega | contradiction | exact absurd trivial (by assumption)⟩, ?_⟩, fun q2 => ⟨by first | decide | omega | contradiction | exact absurd trivial (by assumption), ⟨by first | decide | omega | contradiction | exact absurd trivial (by assumption), by first | decide | omega | contradiction | exact absurd trivial (by assumption)⟩, ⟨by first | decide | omega | contradiction | exact absurd trivial (by assumption), by first | decide | omega | contradiction | exact absurd trivial (by assumption)⟩, by first | decide | omega | contradiction | exact absurd trivial (by assumption), ⟨by first | decide | omega | contradiction | exact absurd trivial (by assumption), by first | decide | omega | contradiction | exact absurd trivial (by assumption)⟩, by first | decide | omega | contradiction | exact absurd trivial (by assumption), ⟨by first | decide | omega | contradiction | exact absurd trivial (by assumption), by first | decide | omega | contradiction | exact absurd trivial (by assumption)⟩, ⟨by first | decide | omega | contradiction | exact absurd trivial (by assumption), by first | decide | omega | contradiction | exact absurd trivial (by assumption)⟩, by first | decide | omega | contradiction | exact absurd trivial (by assumption), ⟨by first | decide | omega | contradiction | exact absurd trivial (by assumption), by first | decide | omega | contradiction | exact absurd trivial (by assumption)⟩, ⟨fun q3 => ⟨⟨by first | decide | omega | contradiction | exact absurd trivial (by assumption), by first | decide | omega | contradiction | exact absurd trivial (by assumption)⟩, ?_⟩, fun q4 => ⟨by first | decide | omega | contradiction | exact absurd trivial (by assumption), ?_⟩⟩⟩⟩
        try (any_goals (exfalso; first | omega | exact absurd trivial (by assumption)))
        exact k0
      rw [if_pos ho]
      have e1 := hD i n (by omega) ho
      have e2 := hD j n (by omega) ho
      by_cases he : cW (sSt W (sSn S) (kR S) c (24 * i)) (ixn (wC W) n) = cW (sSt W (sSn S) (kR S) c (24 * j)) (ixn (wC W) n)
      · have k0 := g (fun o a1 a2 a3 => by
          by_cases e : o = n
          · rw [e]; exact he
          · exact hp o a1 (by omega) a3)
        refine ⟨fun q1 => ⟨⟨by first | decide | omega | contradiction | exact absurd trivial (by assumption), by first | decide | omega | contradiction | exact absurd trivial (by assumption)⟩, ?_⟩, fun q2 => ⟨by first | decide | omega | contradiction | exact absurd trivial (by assumption), ⟨by first | decide | omega | contradiction | exact absurd trivial (by assumption), by first | decide | omega | contradiction | exact absurd trivial (by assumption)⟩, ⟨by first | decide | omega | contradiction | exact absurd trivial (by assumption), by first | decide | omega | contradiction | exact absurd trivial (by assumption)⟩, by first | decide | omega | contradiction | exact absurd trivial (by assumption), ⟨by first | decide | omega | contradiction | exact absurd trivial (by assumption), by first | decide | omega | contradiction | exact absurd trivial (by assumption)⟩, by first | decide | omega | contradiction | exact absurd trivial (by assumption), ⟨by first | decide | omega | contradiction | exact absurd trivial (by assumption), by first | decide | omega | contradiction | exact absurd trivial (by assumption)⟩, ⟨by first | decide | omega | contradiction | exact absurd trivial (by assumption), by first | decide | omega | contradiction | exact absurd trivial (by assumption)⟩, by first | decide | omega | contradiction | exact absurd trivial (by assumption), ⟨by first | decide | omega | contradiction | exact absurd trivial (by assumption), by first | decide | omega | contradiction | exact absurd trivial (by assumption)⟩, ⟨fun q3 => ⟨⟨by first | decide | omega | contradiction | exact absurd trivial (by assumption), by first | decide | omega | contradiction | exact absurd trivial (by assumption)⟩, ?_⟩, fun q4 => ⟨by first | decide | omega | contradiction | exact absurd trivial (by assumption), ?_⟩⟩⟩⟩
        try (any_goals (exfalso; first | omega | exact absurd trivial (by assumption)))
        exact k0
      · have hno : ¬ sLk W S c i j = true := fun q => by
          unfold sLk at q
          rw [zal_iff] at q
          have h36 := is36 hW ho
          exact he (of_decide_eq_true (q _ h36.2.2.1 (by omega)))
        rw [if_neg hno] at K
        refine ⟨fun q1 => ⟨⟨by first | decide | omega | contradiction | exact absurd trivial (by assumption), by first | decide | omega | contradiction | exact absurd trivial (by assumption)⟩, ?_⟩, fun q2 => ⟨by first | decide | omega | contradiction | exact absurd trivial (by assumption), ⟨by first | decide | omega | contradiction | exact absurd trivial (by assumption), by first | decide | omega | contradiction | exact absurd trivial (by assumption)⟩, ⟨by first | decide | omega | contradiction | exact absurd trivial (by assumption), by first | decide | omega | contradiction | exact absurd trivial (by assumption)⟩, by first | decide | omega | contradiction | exact absurd trivial (by assumption), ⟨by first | decide | omega | contradiction | exact absurd trivial (by assumption), by first | decide | omega | contradiction | exact absurd trivial (by assumption)⟩, by first | decide | omega | contradiction | exact absurd trivial (by assumption), ⟨by first | decide | omega | contradiction | exact absurd trivial (by assumption), by first | decide | omega | contradiction | exact absurd trivial (by assumption)⟩, ⟨by first | decide | omega | contradiction | exact absurd trivial (by assumption), by first | decide | omega | contradiction | exact absurd trivial (by assumption)⟩, by first | decide | omega | contradiction | exact absurd trivial (by assumption), ⟨by first | decide | omega | contradiction | exact absurd trivial (by assumption), by first | decide | omega | contradiction | exact absurd trivial (by assumption)⟩, ⟨fun q3 => ⟨⟨by first | decide | omega | contradiction | exact absurd trivial (by assumption), by first | decide | omega | contradiction | exact absurd trivial (by assumption)⟩, ?_⟩, fun q4 => ⟨by first | decide | omega | contradiction | exact absurd trivial (by assumption), ?_⟩⟩⟩⟩
        try (any_goals (exfalso; first | omega | exact absurd trivial (by assumption)))
        exact K
theorem c_M_areLike {i j : Nat} (hW : Wok W) (hM : MW v W) (hD : DYp v W S c 21) (hi : i ≤ 20) (hj : j ≤ 20) (K : Q (if sLk W S c i j = true then 1 else 0) v) : zC l G 1 (d + 2) h_M_areLike [(2, 77), (0, (i : Int)), (0, (j : Int))] v 115 Q := by
  refine zC_at ok_M_areLike ck_M_areLike rfl rfl (sg_M_areLike_0 ?_)
  try simp (disch := omega) only [zup_e, zup_ak, zup_j, Int.zero_add, Int.reduceAdd, mz78, mz79, mz80, mz81, mz82, mz83, mz84, mz85, mz86, mz87, mz88, mz89, mz90, mz91, mz92, mz93, mz94, mz95, mz96, mz97, mz98, mz99, mz100, mz101, mz102, mz103, mz104, mz105, mz106, mz107, mz108, mz109, mz110, mz111, mz112, mz113]
  exact alm_2 hW hM hD hi hj K 36 0 (by omega) (fun o a1 a2 => by omega)
theorem sd_50 {k : Int} {j : Nat} {QX : Nat → zH → Prop} (hW : Wok W) (hM : MW v W) (hD : DYp v W S c 21) (hj : j ≤ 20) (hs : sSdy W S c j = (-1, -1)) (K : Q (if k = 0 then (sSdy W S c 21).1 else (sSdy W S c 21).2) v)
    (K1 : sSdy W S c (j + 1) = (-1, -1) → zJ l G 1 (d + 8) h_M_steady k_M_steady 115 Q QX 45 [(2, 77), (0, k), (0, (j : Int) + 1), (3, 0)] [] v 115) :
    ∀ (m i : Nat), i + m = j → sDl W S c j i = -1 → zJ l G 1 (d + 8) h_M_steady k_M_steady 115 Q QX 50 [(2, 77), (0, k), (0, (j : Int)), (0, (i : Int))] [] v 115
  | m, i, hi, hx => by
    have es := sd_s (W := W) (S := S) (c := c) (n := j)
    rw [Int.toNat_natCast, hs] at es
    match m, hi with
    | 0, hi =>
      have e : i = j := by omega
      subst e
      rw [hx, if_neg (fun q => q.2 rfl)] at es
      have K1 := K1 es
      refine zgo ck_M_steady 300 50 _ _ _ _ rfl (sg_M_steady_50 ?_)
      try simp (disch := omega) only [zup_e, zup_ak, zup_j, Int.zero_add, Int.reduceAdd, mz78, mz79, mz80, mz81, mz82, mz83, mz84, mz85, mz86, mz87, mz88, mz89, mz90, mz91, mz92, mz93, mz94, mz95, mz96, mz97, mz98, mz99, mz100, mz101, mz102, mz103, mz104, mz105, mz106, mz107, mz108, mz109, mz110, mz111, mz112, mz113]
      refine ⟨fun q1 => ⟨⟨by first | decide | omega | contradiction | exact absurd trivial (by assumption), by first | decide | omega | contradiction | exact absurd trivial (by assumption)⟩, ?_⟩, fun q2 => ⟨by first | decide | omega | contradiction | exact absurd trivial (by assumption), ?_⟩⟩
      try (any_goals (exfalso; first | omega | exact absurd trivial (by assumption)))
      exact K1
    | m + 1, hi =>
      have el := dl_s (W := W) (S := S) (c := c) (j := j) (n := i)
      rw [Int.toNat_natCast] at el
      refine zgo ck_M_steady 300 50 _ _ _ _ rfl (sg_M_steady_50 ?_)
      try simp (disch := omega) only [zup_e, zup_ak, zup_j, Int.zero_add, Int.reduceAdd, mz78, mz79, mz80, mz81, mz82, mz83, mz84, mz85, mz86, mz87, mz88, mz89, mz90, mz91, mz92, mz93, mz94, mz95, mz96, mz97, mz98, mz99, mz100, mz101, mz102, mz103, mz104, mz105, mz106, mz107, mz108, mz109, mz110, mz111, mz112, mz113]
      refine ⟨fun q1 => ⟨⟨by first | decide | omega | contradiction | exact absurd trivial (by assumption), by first | decide | omega | contradiction | exact absurd trivial (by assumption)⟩, ?_⟩, fun q2 => ⟨by first | decide | omega | contradiction | exact absurd trivial (by assumption), ?_⟩⟩
      try (any_goals (exfalso; first | omega | exact absurd trivial (by assumption)))
      refine c_M_areLike hW hM hD (by omega) hj ?_
      by_cases hl : sLk W S c i j = true
      · rw [if_pos ⟨hx, hl⟩] at el
        have h2 := dl_m (W := W) (S := S) (c := c) (j := j) (n := i + 1) (by omega) m
        rw [show i + 1 + m = j by omega, el] at h2
        rw [h2, if_pos ⟨rfl, by omega⟩] at es
        have h3 := sd_m (W := W) (S := S) (c := c) (n := j + 1) (by rw [es]; show (i : Int) ≠ -1; omega) (20 - j)
        rw [show j + 1 + (20 - j) = 21 by omega, es] at h3
        rw [h3] at K
        rw [if_pos hl]
        by_cases hk : k = 0
        · rw [if_pos hk] at K
          refine ⟨fun q1 => ⟨⟨by first | decide | omega | contradiction | exact absurd trivial (by assumption), by first | decide | omega | contradiction | exact absurd trivial (by assumption)⟩, ?_⟩, fun q2 => ⟨fun q3 => ⟨⟨by first | decide | omega | contradiction | exact absurd trivial (by assumption), by first | decide | omega | contradiction | exact absurd trivial (by assumption)⟩, ?_⟩, fun q4 => ?_⟩⟩
          try (any_goals (exfalso; first | omega | exact absurd trivial (by assumption)))
          exact K
        · rw [if_neg hk] at K
          refine ⟨fun q1 => ⟨⟨by first | decide | omega | contradiction | exact absurd trivial (by assumption), by first | decide | omega | contradiction | exact absurd trivial (by assumption)⟩, ?_⟩, fun q2 => ⟨fun q3 => ⟨⟨by first | decide | omega | contradiction | exact absurd trivial (by assumption), by first | decide | omega | contradiction | exact absurd trivial (by assumption)⟩, ?_⟩, fun q4 => ?_⟩⟩
          try (any_goals (exfalso; first | omega | exact absurd trivial (by assumption)))
          exact K
      · rw [if_neg (fun q => hl q.2), hx] at el
        have g := sd_50 (QX := QX) hW hM hD hj hs K K1 m (i + 1) (by omega) el
        rw [if_neg hl]
        refine ⟨fun q1 => ⟨⟨by first | decide | omega | contradiction | exact absurd trivial (by assumption), by first | decide | omega | contradiction | exact absurd trivial (by assumption)⟩, ?_⟩, fun q2 => ⟨fun q3 => ⟨⟨by first | decide | omega | contradiction | exact absurd trivial (by assumption), by first | decide | omega | contradiction | exact absurd trivial (by assumption)⟩, ?_⟩, fun q4 => ?_⟩⟩
        try (any_goals (exfalso; first | omega | exact absurd trivial (by assumption)))
        exact g
theorem sd_45 {k : Int} {QX : Nat → zH → Prop} (hW : Wok W) (hM : MW v W) (hD : DYp v W S c 21) (K : Q (if k = 0 then (sSdy W S c 21).1 else (sSdy W S c 21).2) v) :
    ∀ (m j : Nat), j + m = 21 → sSdy W S c j = (-1, -1) → zJ l G 1 (d + 8) h_M_steady k_M_steady 115 Q QX 45 [(2, 77), (0, k), (0, (j : Int)), (3, 0)] [] v 115
  | m, j, hj, hs => by
    match m, hj with
    | 0, hj =>
      have e : j = 21 := by omega
      subst e
      rw [hs] at K
      have K : Q (-1) v := by
        by_cases hk : k = 0
        · rw [if_pos hk] at K; exact K
        · rw [if_neg hk] at K; exact K
      refine zgo ck_M_steady 300 45 _ _ _ _ rfl (sg_M_steady_45 ?_)
      try simp (disch := omega) only [zup_e, zup_ak, zup_j, Int.zero_add, Int.reduceAdd, mz78, mz79, mz80, mz81, mz82, mz83, mz84, mz85, mz86, mz87, mz88, mz89, mz90, mz91, mz92, mz93, mz94, mz95, mz96, mz97, mz98, mz99, mz100, mz101, mz102, mz103, mz104, mz105, mz106, mz107, mz108, mz109, mz110, mz111, mz112, mz113]
      refine ⟨fun q1 => ?_, fun q2 => ?_⟩
      try (any_goals (exfalso; first | omega | exact absurd trivial (by assumption)))
      exact K
    | m + 1, hj =>
      have g := sd_45 (QX := QX) hW hM hD K m (j + 1) (by omega)
      refine zgo ck_M_steady 300 45 _ _ _ _ rfl (sg_M_steady_45 ?_)
      try simp (disch := omega) only [zup_e, zup_ak, zup_j, Int.zero_add, Int.reduceAdd, mz78, mz79, mz80, mz81, mz82, mz83, mz84, mz85, mz86, mz87, mz88, mz89, mz90, mz91, mz92, mz93, mz94, mz95, mz96, mz97, mz98, mz99, mz100, mz101, mz102, mz103, mz104, mz105, mz106, mz107, mz108, mz109, mz110, mz111, mz112, mz113]
      refine ⟨fun q1 => ?_, fun q2 => ?_⟩
      try (any_goals (exfalso; first | omega | exact absurd trivial (by assumption)))
      exact sd_50 hW hM hD (by omega) hs K g j 0 (by omega) rfl
theorem m_pA {v0 : zH} {k n : Nat} (h : MH v0 v W c S k) (hh : cH c + k + n ≤ 1000000) (hn : n ≤ 100000) (K : ∀ v' : zH, MH v0 v' W c S (k + n) → (∀ b : Int, 101 ≤ b → v' b = v b) → Q 0 v') : zC l G 1 (d + 7) h_M_passAll [(2, 77), (0, (n : Int))] v 115 Q := by
  refine c_M_passAll h.2.1 (by rw [sSt_H]; omega) hn (fun v2 f1 f2 f3 => ?_)
  rw [← sSt_add] at f2
  exact K v2 ⟨Fz_tr h.1 (Fz_p f1), f2, MA_p f1 h.2.2.1, (f1.2 39 (by omega)).trans h.2.2.2.1, by rw [f1.1 94 (by omega) (by omega) (by omega) (by omega) (by omega) (by omega) (by omega)]; exact h.2.2.2.2.1, by rw [f1.1 96 (by omega) (by omega) (by omega) (by omega) (by omega) (by omega) (by omega)]; exact h.2.2.2.2.2⟩ (fun b q => f1.1 b (by omega) (by omega) (by omega) (by omega) (by omega) (by omega) (by omega))
theorem sd_19 {k : Int} {j : Nat} {v0 w0 : zH} {QX : Nat → zH → Prop} (hj : j ≤ 20) (hc : cH c ≤ 900000) (hH : MH w0 v0 W c S (24 * j)) (hD : DYp v0 W S c j)
    (K : ∀ v' : zH, MH w0 v' W c S (24 * (j + 1)) → DYp v' W S c ((j : Int) + 1) → zJ l G 1 (d + 8) h_M_steady k_M_steady 115 Q QX 14 [(2, 77), (0, k), (0, (j : Int) + 1), (3, 0)] [] v' 115) :
    ∀ (m i : Nat) {v : zH}, i + m = 36 → (∀ b : Int, b ≠ 112 → v b = v0 b) → (∀ o : Int, 0 ≤ o → o < i → v 112 (36 * (j : Int) + o) = v0 97 o) → (∀ n : Int, n < 36 * (j : Int) → v 112 n = v0 112 n) → zJ l G 1 (d + 8) h_M_steady k_M_steady 115 Q QX 19 [(2, 77), (0, k), (0, (j : Int)), (0, (i : Int))] [] v 115
  | m, i, v, hi, hF, hp, hq => by
    have hW := hH.2.1.1
    match m, hi with
    | 0, hi =>
      refine zgo ck_M_steady 300 19 _ _ _ _ rfl (sg_M_steady_19 ?_)
      try simp (disch := omega) only [zup_e, zup_ak, zup_j, Int.zero_add, Int.reduceAdd, mz78, mz79, mz80, mz81, mz82, mz83, mz84, mz85, mz86, mz87, mz88, mz89, mz90, mz91, mz92, mz93, mz94, mz95, mz96, mz97, mz98, mz99, mz100, mz101, mz102, mz103, mz104, mz105, mz106, mz107, mz108, mz109, mz110, mz111, mz112, mz113]
      refine ⟨fun q1 => ⟨by first | decide | omega | contradiction | exact absurd trivial (by assumption), ?_⟩, fun q2 => ⟨by first | decide | omega | contradiction | exact absurd trivial (by assumption), ⟨by first | decide | omega | contradiction | exact absurd trivial (by assumption), by first | decide | omega | contradiction | exact absurd trivial (by assumption)⟩, ⟨by first | decide | omega | contradiction | exact absurd trivial (by assumption), by first | decide | omega | contradiction | exact absurd trivial (by assumption)⟩, by first | decide | omega | contradiction | exact absurd trivial (by assumption), by first | decide | omega | contradiction | exact absurd trivial (by assumption), ⟨by first | decide | omega | contradiction | exact absurd trivial (by assumption), by first | decide | omega | contradiction | exact absurd trivial (by assumption)⟩, by first | decide | omega | contradiction | exact absurd trivial (by assumption), ⟨by first | decide | omega | contradiction | exact absurd trivial (by assumption), by first | decide | omega | contradiction | exact absurd trivial (by assumption)⟩, ⟨by first | decide | omega | contradiction | exact absurd trivial (by assumption), by first | decide | omega | contradiction | exact absurd trivial (by assumption)⟩, ?_⟩⟩
      try (any_goals (exfalso; first | omega | exact absurd trivial (by assumption)))
      refine m_pA (k := 24 * j) (n := 24) (MH_1 (x := 112) (by omega) hF hH) (by omega) (by omega) (fun v1 f1 f2 => ?_)
      refine ⟨⟨by first | decide | omega | contradiction | exact absurd trivial (by assumption), by first | decide | omega | contradiction | exact absurd trivial (by assumption)⟩, ?_⟩
      refine K v1 f1 (fun n o n1 ho => ?_)
      have h36 := is36 hW ho
      rw [f2 112 (by omega)]
      by_cases e : n = j
      · rw [e, hp o h36.1 (by omega)]
        exact (hH.2.1.2.2.2.1.2.1 o ho).1
      · rw [hq _ (by omega)]
        exact hD n o (by omega) ho
    | m + 1, hi =>
      have z112 : zLN 112 = 756 := by decide
      have e97 : v 97 i = v0 97 i := by rw [hF 97 (by omega)]
      refine zgo ck_M_steady 300 19 _ _ _ _ rfl (sg_M_steady_19 ?_)
      try simp (disch := omega) only [zup_e, zup_ak, zup_j, Int.zero_add, Int.reduceAdd, mz78, mz79, mz80, mz81, mz82, mz83, mz84, mz85, mz86, mz87, mz88, mz89, mz90, mz91, mz92, mz93, mz94, mz95, mz96, mz97, mz98, mz99, mz100, mz101, mz102, mz103, mz104, mz105, mz106, mz107, mz108, mz109, mz110, mz111, mz112, mz113, z112]
      refine ⟨fun q1 => ⟨by first | decide | omega | contradiction | exact absurd trivial (by assumption), ?_⟩, fun q2 => ⟨by first | decide | omega | contradiction | exact absurd trivial (by assumption), ⟨by first | decide | omega | contradiction | exact absurd trivial (by assumption), by first | decide | omega | contradiction | exact absurd trivial (by assumption)⟩, ⟨by first | decide | omega | contradiction | exact absurd trivial (by assumption), by first | decide | omega | contradiction | exact absurd trivial (by assumption)⟩, by first | decide | omega | contradiction | exact absurd trivial (by assumption), by first | decide | omega | contradiction | exact absurd trivial (by assumption), ⟨by first | decide | omega | contradiction | exact absurd trivial (by assumption), by first | decide | omega | contradiction | exact absurd trivial (by assumption)⟩, by first | decide | omega | contradiction | exact absurd trivial (by assumption), ⟨by first | decide | omega | contradiction | exact absurd trivial (by assumption), by first | decide | omega | contradiction | exact absurd trivial (by assumption)⟩, ⟨by first | decide | omega | contradiction | exact absurd trivial (by assumption), by first | decide | omega | contradiction | exact absurd trivial (by assumption)⟩, ?_⟩⟩
      try (any_goals (exfalso; first | omega | exact absurd trivial (by assumption)))
      refine sd_19 hj hc hH hD K m (i + 1) (by omega) (fun b q => (zup_a q).trans (hF b q)) (fun o a1 a2 => ?_) (fun n q => ?_)
      · by_cases e : o = i
        · rw [e, zup_s]
          exact e97
        · rw [zup_j (by omega)]
          exact hp o a1 (by omega)
      · rw [zup_j (by omega)]
        exact hq n q
theorem sd_14 {k : Int} {v0 : zH} {QX : Nat → zH → Prop} (hQ : QM v0 W c S) (K : ∀ v' : zH, Fz v0 v' → QM v' W c S → Q (if k = 0 then (sSdy W S c 21).1 else (sSdy W S c 21).2) v') :
    ∀ (m j : Nat) {v : zH}, j + m = 21 → MH v0 v W c S (24 * j) → DYp v W S c j → zJ l G 1 (d + 8) h_M_steady k_M_steady 115 Q QX 14 [(2, 77), (0, k), (0, (j : Int)), (3, 0)] [] v 115
  | m, j, v, hj, hH, hD => by
    match m, hj with
    | 0, hj =>
      have e : j = 21 := by omega
      subst e
      refine zgo ck_M_steady 300 14 _ _ _ _ rfl (sg_M_steady_14 ?_)
      try simp (disch := omega) only [zup_e, zup_ak, zup_j, Int.zero_add, Int.reduceAdd, mz78, mz79, mz80, mz81, mz82, mz83, mz84, mz85, mz86, mz87, mz88, mz89, mz90, mz91, mz92, mz93, mz94, mz95, mz96, mz97, mz98, mz99, mz100, mz101, mz102, mz103, mz104, mz105, mz106, mz107, mz108, mz109, mz110, mz111, mz112, mz113]
      refine ⟨fun q1 => ⟨by first | decide | omega | contradiction | exact absurd trivial (by assumption), ?_⟩, fun q2 => ?_⟩
      try (any_goals (exfalso; first | omega | exact absurd trivial (by assumption)))
      refine m_qtb hQ hH (fun v1 y1 y2 y3 => ?_)
      exact sd_45 y2.1.1 y2.1.2.1 (fun i o h1 h2 => by rw [y3 112 (by omega) (by omega)]; exact hD i o h1 h2) (K v1 y1 y2) 20 1 (by omega) rfl
    | m + 1, hj =>
      refine zgo ck_M_steady 300 14 _ _ _ _ rfl (sg_M_steady_14 ?_)
      try simp (disch := omega) only [zup_e, zup_ak, zup_j, Int.zero_add, Int.reduceAdd, mz78, mz79, mz80, mz81, mz82, mz83, mz84, mz85, mz86, mz87, mz88, mz89, mz90, mz91, mz92, mz93, mz94, mz95, mz96, mz97, mz98, mz99, mz100, mz101, mz102, mz103, mz104, mz105, mz106, mz107, mz108, mz109, mz110, mz111, mz112, mz113]
      refine ⟨fun q1 => ⟨by first | decide | omega | contradiction | exact absurd trivial (by assumption), ?_⟩, fun q2 => ?_⟩
      try (any_goals (exfalso; first | omega | exact absurd trivial (by assumption)))
      exact sd_19 (v0 := v) (by omega) hQ.2.2 hH hD (fun v1 f1 f2 => sd_14 hQ K m (j + 1) (by omega) f1 f2) 36 0 (by omega) (fun _ _ => rfl) (fun o a1 a2 => by omega) (fun _ _ => rfl)
theorem c_M_steady {k : Int} (hQ : QM v W c S) (K : ∀ v' : zH, Fz v v' → QM v' W c S → Q (aSteady W S c k) v') : zC l G 1 (d + 8) h_M_steady [(2, 77), (0, k)] v 115 Q := by
  obtain ⟨hW, hM, -⟩ := id hQ.1
  have hR4 := hW.1
  unfold aSteady at K
  refine zC_at ok_M_steady ck_M_steady rfl rfl (sg_M_steady_0 ?_)
  try simp (disch := omega) only [zup_e, zup_ak, zup_j, Int.zero_add, Int.reduceAdd, mz78, mz79, mz80, mz81, mz82, mz83, mz84, mz85, mz86, mz87, mz88, mz89, mz90, mz91, mz92, mz93, mz94, mz95, mz96, mz97, mz98, mz99, mz100, mz101, mz102, mz103, mz104, mz105, mz106, mz107, mz108, mz109, mz110, mz111, mz112, mz113, hM.2.1]
  refine ⟨by first | decide | omega | contradiction | exact absurd trivial (by assumption), ⟨fun q1 => ?_, fun q2 => ?_⟩⟩
  try (any_goals (exfalso; first | omega | exact absurd trivial (by assumption)))
  · rw [if_neg (fun q => by omega)] at K
    exact K v Fz_rf hQ
  refine c_M_in ?_
  by_cases hk : 0 ≤ k ∧ k ≤ 1
  rotate_left
  · rw [if_neg hk]
    rw [if_neg (fun q => hk q.2)] at K
    refine ⟨fun q1 => ⟨by first | decide | omega | contradiction | exact absurd trivial (by assumption), ?_⟩, fun q2 => ?_⟩
    try (any_goals (exfalso; first | omega | exact absurd trivial (by assumption)))
    exact K v Fz_rf hQ
  rw [if_pos hk]
  rw [if_pos ⟨by omega, hk⟩] at K
  refine ⟨fun q1 => ⟨by first | decide | omega | contradiction | exact absurd trivial (by assumption), ?_⟩, fun q2 => ?_⟩
  try (any_goals (exfalso; first | omega | exact absurd trivial (by assumption)))
  refine m_pa hQ.1 (fun v1 g1 => ?_)
  exact sd_14 hQ K 21 0 (by omega) g1 (fun i o h1 => by omega)
end
