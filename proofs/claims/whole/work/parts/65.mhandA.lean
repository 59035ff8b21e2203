/-! THE REFERENCE: the state; what is told by hand, images, touched, counts -/
def MPa (v : zH) (W : zWl) (L : zPa) : Prop := v 77 46 = L.length ∧ L.length ≤ 60 ∧ ∀ (i : Nat) (f : Int → Int), L[i]? = some f → ∀ a : Int, isc (wR W) (wC W) a = true → v 102 (36 * ((L.length : Int) - 1 - i) + a) = f (ixn (wC W) a)
def MIm (v : zH) (W : zWl) (I : zIm) : Prop := v 77 62 = (if I.1 then 1 else 0) ∧ (I.1 = true → v 77 61 = I.2.2 ∧ ∀ a : Int, isc (wR W) (wC W) a = true → v 113 a = I.2.1 (ixn (wC W) a))
/-- the reference's cells hold the state -/
def AM (v : zH) (s : zSg) : Prop := QM v (gW s) (gC s) (gS s) ∧ TM v (gX s) ∧ MPa v (gW s) (gL s) ∧ MIm v (gW s) (gI s) ∧ MTo v (gW s) (gT s)
/-- what is not the reference's stays -/
def Fm (v v' : zH) : Prop := ∀ b : Int, (b < 77 ∨ 114 ≤ b) → v' b = v b
theorem Fm_rf {v : zH} : Fm v v := fun _ _ => rfl
theorem Fm_tr {u v w : zH} (h : Fm u v) (g : Fm v w) : Fm u w := fun b q => (g b q).trans (h b q)
theorem Fz_Fm {v v' : zH} (h : Fz v v') : Fm v v' := fun b q => h.1 b (by omega)
theorem MPa_fr {v v' : zH} {W : zWl} {L : zPa} (h0 : v' 77 46 = v 77 46) (h1 : v' 102 = v 102) (k : MPa v W L) : MPa v' W L := by
  unfold MPa
  rw [h0, h1]
  exact k
theorem MIm_fr {v v' : zH} {W : zWl} {I : zIm} (h0 : v' 77 62 = v 77 62) (h1 : v' 77 61 = v 77 61) (h2 : v' 113 = v 113) (k : MIm v W I) : MIm v' W I := by
  unfold MIm
  rw [h0, h1, h2]
  exact k
theorem MTo_fr {v v' : zH} {W : zWl} {T : zTo} (h0 : v' 77 56 = v 77 56) (h1 : v' 107 = v 107) (h2 : v' 108 = v 108) (h3 : v' 109 = v 109) (k : MTo v W T) : MTo v' W T := by
  unfold MTo
  rw [h0, h1, h2, h3]
  exact k
theorem MS_7 {v v' : zH} {S S' : zSk} (h : ∀ b : Int, b ≠ 77 → v' b = v b) (e : kA S' = kA S) (h13 : v' 77 13 = v 77 13) (h37 : v' 77 37 = kR S') (h38 : v' 77 38 = kH S') (k : MS v S) : MS v' S' := by
  refine ⟨by rw [h13, e]; exact k.1, h37, h38, fun j P hP => ?_⟩
  rw [e] at hP
  obtain ⟨q1, q2⟩ := k.2.2.2 j P hP
  exact ⟨by rw [h 82 (by omega)]; exact q1, MLc_fr P 0 0 (fun j _ _ => by rw [h 83 (by omega), h 84 (by omega), h 85 (by omega)]; exact ⟨rfl, rfl, rfl⟩) (fun j _ _ => by rw [h 79 (by omega), h 80 (by omega)]; exact ⟨rfl, rfl⟩) q2⟩
theorem QC_frM {v v' : zH} {w : Int} {W : zWl} {c : zCo} {S : zSk} (h : ∀ b : Int, b < 77 → v' b = v b) (k : QC v w W c S) : QC v' w W c S := by
  obtain ⟨k1, k2, k3, k4, k5, k6, k7, k8⟩ := k
  refine ⟨by rw [h 0 (by omega)]; exact k1, k2, k3, WL_fr (fun a h1 h2 => h a (by rcases k2 with e | e <;> omega)) k4, k5, CO_fr (fun a q => h a (by omega)) k6, k7, SK_fk k7 (fun a h1 h2 => h a (by omega)) k8⟩
/-- the state stays where a question went by -/
theorem AM_fz {v v' : zH} {s : zSg} (h : Fz v v') (hQ : QM v' (gW s) (gC s) (gS s)) (k : AM v s) : AM v' s := by
  have hk : ∀ j : Int, j ≠ 0 → j ≠ 36 → j ≠ 39 → j ≠ 44 → j ≠ 49 → j ≠ 50 → v' 77 j = v 77 j := h.2
  exact ⟨hQ, TM_fr (hk 2 (by omega) (by omega) (by omega) (by omega) (by omega) (by omega)) (h.1 78 (by omega)) k.2.1, MPa_fr (hk 46 (by omega) (by omega) (by omega) (by omega) (by omega) (by omega)) (h.1 102 (by omega)) k.2.2.1, MIm_fr (hk 62 (by omega) (by omega) (by omega) (by omega) (by omega) (by omega)) (hk 61 (by omega) (by omega) (by omega) (by omega) (by omega) (by omega)) (h.1 113 (by omega)) k.2.2.2.1, MTo_fz h k.2.2.2.2⟩
/-- the state stays where the reference's cells do -/
theorem AM_fr {v v' : zH} {s : zSg} (h : ∀ b : Int, 77 ≤ b → v' b = v b) (k : AM v s) : AM v' s := by
  have e := h 77 (by omega)
  exact ⟨⟨MQc_fr (fun b q => h b (by omega)) (fun j _ => by rw [e]) k.1.1, by rw [e]; exact k.1.2.1, k.1.2.2⟩, TM_fr (by rw [e]) (h 78 (by omega)) k.2.1, MPa_fr (by rw [e]) (h 102 (by omega)) k.2.2.1, MIm_fr (by rw [e]) (by rw [e]) (h 113 (by omega)) k.2.2.2.1, MTo_fr (by rw [e]) (h 107 (by omega)) (h 108 (by omega)) (h 109 (by omega)) k.2.2.2.2⟩
/-- the class's state stays where its cells do -/
theorem AC_fr {v v' : zH} {s : zSg} (h : ∀ b : Int, b < 77 → v' b = v b) (k : AC v s) : AC v' s := by
  obtain ⟨w, k1, k2, k3, k4, k5⟩ := k
  have hw := k1.2.1
  refine ⟨w, QC_frM h k1, by rw [h 0 (by omega)]; exact k2, TP_fr (fun a q => h a (by omega)) k3, PS_fr (fun a q1 q2 => h a (by omega)) k4, TS_fr (fun a q1 q2 => h a (by omega)) k5⟩
section
variable {l : Launch} {G : zG} {d : Nat} {v : zH} {Q : Int → zH → Prop}
theorem askM {D : Nat} {h : zHdr} {As : List zV} {s : zSg} {x : Int}
    (hA : AM v s) (C : QM v (gW s) (gC s) (gS s) → MTo v (gW s) (gT s) → (∀ v' : zH, Fz v v' → QM v' (gW s) (gC s) (gS s) → Q x v') → zC l G 1 D h As v 115 Q) (K : ∀ v' : zH, Fm v v' → AM v' s → Q x v') : zC l G 1 D h As v 115 Q :=
  C hA.1 hA.2.2.2.2 (fun v' h1 h2 => K v' (Fz_Fm h1) (AM_fz h1 h2 hA))
theorem c_M_law {n : Int} {s : zSg} (hA : AM v s) (K : ∀ v' : zH, Fm v v' → AM v' (gLaw s n) → Q (aLaw s n) v') : zC l G 1 (d + 2) h_M_law [(2, 77), (0, n)] v 115 Q := by
  obtain ⟨⟨⟨hW, hM, hc, hO, hk, hS⟩, q2', q3'⟩, a2, a3, a4, a5⟩ := id hA
  have h13 := hS.1
  have hk4 := hk.1
  unfold gLaw aLaw at K
  refine zC_at ok_M_law ck_M_law rfl rfl (sg_M_law_0 ?_)
  try simp (disch := omega) only [zup_e, zup_ak, zup_j, Int.zero_add, Int.reduceAdd, mz78, mz79, mz80, mz81, mz82, mz83, mz84, mz85, mz86, mz87, mz88, mz89, mz90, mz91, mz92, mz93, mz94, mz95, mz96, mz97, mz98, mz99, mz100, mz101, mz102, mz103, mz104, mz105, mz106, mz107, mz108, mz109, mz110, mz111, mz112, mz113, h13]
  refine ⟨by first | decide | omega | contradiction | exact absurd trivial (by assumption), ⟨by first | decide | omega | contradiction | exact absurd trivial (by assumption), by first | decide | omega | contradiction | exact absurd trivial (by assumption)⟩, ?_⟩
  try (any_goals (exfalso; first | omega | exact absurd trivial (by assumption)))
  refine c_M_in ?_
  by_cases h : -1 ≤ n ∧ n ≤ (kA (gS s)).length - 1
  rotate_left
  · rw [if_neg h]
    rw [if_neg h, if_neg h] at K
    refine ⟨fun q1 => ⟨by first | decide | omega | contradiction | exact absurd trivial (by assumption), by first | decide | omega | contradiction | exact absurd trivial (by assumption), ?_⟩, fun q2 => ⟨by first | decide | omega | contradiction | exact absurd trivial (by assumption), ?_⟩⟩
    try (any_goals (exfalso; first | omega | exact absurd trivial (by assumption)))
    exact K v Fm_rf hA
  rw [if_pos h]
  rw [if_pos h, if_pos h] at K
  refine ⟨fun q1 => ⟨by first | decide | omega | contradiction | exact absurd trivial (by assumption), by first | decide | omega | contradiction | exact absurd trivial (by assumption), ?_⟩, fun q2 => ⟨by first | decide | omega | contradiction | exact absurd trivial (by assumption), ?_⟩⟩
  try (any_goals (exfalso; first | omega | exact absurd trivial (by assumption)))
  have hf : ∀ b : Int, b ≠ 77 → (zupd v 77 38 n) b = v b := fun b q => zup_a q
  have hj : ∀ j : Int, j ≠ 38 → (zupd v 77 38 n) 77 j = v 77 j := fun j q => zup_j q
  refine K _ (fun b q => hf b (by omega)) ⟨⟨⟨hW, MW_fr (fun j _ _ => hj j (by omega)) (hf 93 (by omega)) (fun o _ _ => by rw [hf 94 (by omega)]; exact ⟨rfl, rfl, rfl⟩) (hf 95 (by omega)) hM, hc, ⟨by rw [hj 36 (by omega)]; exact hO.1, by rw [hf 97 (by omega), hf 96 (by omega)]; exact hO.2.1, by rw [hj 39 (by omega), hf 94 (by omega)]; exact hO.2.2⟩, ⟨hk.1, hk.2.1, h.1, by show n < ((kA (gS s)).length : Int); omega⟩, MS_7 (S := gS s) (S' := (kA (gS s), n, kR (gS s))) hf rfl (hj 13 (by omega)) ((hj 37 (by omega)).trans hS.2.1) zup_s hS⟩, (hj 39 (by omega)).trans q2', q3'⟩, TM_fr (hj 2 (by omega)) (hf 78 (by omega)) a2, MPa_fr (hj 46 (by omega)) (hf 102 (by omega)) a3, MIm_fr (hj 62 (by omega)) (hj 61 (by omega)) (hf 113 (by omega)) a4, MTo_fr (hj 56 (by omega)) (hf 107 (by omega)) (hf 108 (by omega)) (hf 109 (by omega)) a5⟩
theorem c_M_rain {h b : Int} {s : zSg} (hA : AM v s) (K : ∀ v' : zH, Fm v v' → AM v' (gRain s h b) → Q (aRain s h b) v') : zC l G 1 (d + 2) h_M_rain [(2, 77), (0, h), (0, b)] v 115 Q := by
  obtain ⟨⟨⟨hW, hM, hc, hO, hk, hS⟩, q2', q3'⟩, a2, a3, a4, a5⟩ := id hA
  have hR4 := hW.1
  have e37 := hS.2.1
  unfold gRain aRain at K
  refine zC_at ok_M_rain ck_M_rain rfl rfl (sg_M_rain_0 ?_)
  try simp (disch := omega) only [zup_e, zup_ak, zup_j, Int.zero_add, Int.reduceAdd, mz78, mz79, mz80, mz81, mz82, mz83, mz84, mz85, mz86, mz87, mz88, mz89, mz90, mz91, mz92, mz93, mz94, mz95, mz96, mz97, mz98, mz99, mz100, mz101, mz102, mz103, mz104, mz105, mz106, mz107, mz108, mz109, mz110, mz111, mz112, mz113, hM.2.1, e37]
  refine ⟨by first | decide | omega | contradiction | exact absurd trivial (by assumption), ⟨fun q1 => ⟨by first | decide | omega | contradiction | exact absurd trivial (by assumption), ?_⟩, fun q2 => ?_⟩⟩
  try (any_goals (exfalso; first | omega | exact absurd trivial (by assumption)))
  · rw [if_neg (fun q => by omega), if_neg (fun q => by omega)] at K
    exact K v Fm_rf hA
  refine c_M_in ?_
  by_cases h1 : 0 ≤ h ∧ h ≤ 23
  rotate_left
  · rw [if_neg h1]
    rw [if_neg (fun q => h1 q.2.1), if_neg (fun q => h1 q.2.1)] at K
    refine ⟨fun q1 => ⟨by first | decide | omega | contradiction | exact absurd trivial (by assumption), ?_⟩, fun q2 => ⟨by first | decide | omega | contradiction | exact absurd trivial (by assumption), ?_⟩⟩
    try (any_goals (exfalso; first | omega | exact absurd trivial (by assumption)))
    exact K v Fm_rf hA
  rw [if_pos h1]
  have eh : sRain (kR (gS s)) h = sBt (kR (gS s)) h := by unfold sRain sBt; rw [show h % 24 = h by omega]
  rw [eh] at K
  show _
  simp only [e37]
  refine ⟨fun q1 => ⟨by first | decide | omega | contradiction | exact absurd trivial (by assumption), ?_⟩, fun q2 => ⟨by first | decide | omega | contradiction | exact absurd trivial (by assumption), ?_⟩⟩
  try (any_goals (exfalso; first | omega | exact absurd trivial (by assumption)))
  refine c_M_has ?_
  by_cases h2 : (if sBt (kR (gS s)) h = true then (1 : Int) else 0) = b
  · rw [if_neg (fun q => q.2.2 h2), if_neg (fun q => q.2.2 h2)] at K
    refine ⟨fun q1 => ⟨by first | decide | omega | contradiction | exact absurd trivial (by assumption), by first | decide | omega | contradiction | exact absurd trivial (by assumption), by first | decide | omega | contradiction | exact absurd trivial (by assumption), ?_⟩, fun q2 => ⟨by first | decide | omega | contradiction | exact absurd trivial (by assumption), ?_⟩⟩
    try (any_goals (exfalso; first | omega | exact absurd trivial (by assumption)))
    exact K v Fm_rf hA
  · rw [if_pos ⟨by omega, h1, h2⟩, if_pos ⟨by omega, h1, h2⟩] at K
    refine ⟨fun q1 => ⟨by first | decide | omega | contradiction | exact absurd trivial (by assumption), by first | decide | omega | contradiction | exact absurd trivial (by assumption), by first | decide | omega | contradiction | exact absurd trivial (by assumption), ?_⟩, fun q2 => ⟨by first | decide | omega | contradiction | exact absurd trivial (by assumption), ?_⟩⟩
    try (any_goals (exfalso; first | omega | exact absurd trivial (by assumption)))
    have hf : ∀ (x b : Int), b ≠ 77 → (zupd v 77 37 x) b = v b := fun x b q => zup_a q
    have hj : ∀ (x j : Int), j ≠ 37 → (zupd v 77 37 x) 77 j = v 77 j := fun x j q => zup_j q
    refine K _ (fun b q => hf _ b (by omega)) ⟨⟨⟨hW, MW_fr (fun j _ _ => hj _ j (by omega)) (hf _ 93 (by omega)) (fun o _ _ => by rw [hf _ 94 (by omega)]; exact ⟨rfl, rfl, rfl⟩) (hf _ 95 (by omega)) hM, hc, ⟨by rw [hj _ 36 (by omega)]; exact hO.1, by rw [hf _ 97 (by omega), hf _ 96 (by omega)]; exact hO.2.1, by rw [hj _ 39 (by omega), hf _ 94 (by omega)]; exact hO.2.2⟩, ⟨hk.1, hk.2.1, hk.2.2.1, hk.2.2.2⟩, MS_7 (S := gS s) (S' := (kA (gS s), kH (gS s), zxor (kR (gS s)) (zshl 1 h))) (hf _) rfl (hj _ 13 (by omega)) (zup_s.trans (by rw [e37]; rfl)) ((hj _ 38 (by omega)).trans hS.2.2.1) hS⟩, (hj _ 39 (by omega)).trans q2', q3'⟩, TM_fr (hj _ 2 (by omega)) (hf _ 78 (by omega)) a2, MPa_fr (hj _ 46 (by omega)) (hf _ 102 (by omega)) a3, MIm_fr (hj _ 62 (by omega)) (hj _ 61 (by omega)) (hf _ 113 (by omega)) a4, MTo_fr (hj _ 56 (by omega)) (hf _ 107 (by omega)) (hf _ 108 (by omega)) (hf _ 109 (by omega)) a5⟩
theorem c_M_warm {a x : Int} {s : zSg} (hA : AM v s) (K : ∀ v' : zH, Fm v v' → AM v' (gWarm s a x) → Q (aWarm s a x) v') : zC l G 1 (d + 2) h_M_warm [(2, 77), (0, a), (0, x)] v 115 Q := by
  obtain ⟨⟨⟨hW, hM, hc, hO, hk, hS⟩, q2', q3'⟩, a2, a3, a4, a5⟩ := id hA
  unfold gWarm aWarm at K
  refine zC_at ok_M_warm ck_M_warm rfl rfl (sg_M_warm_0 ?_)
  try simp (disch := omega) only [zup_e, zup_ak, zup_j, Int.zero_add, Int.reduceAdd, mz78, mz79, mz80, mz81, mz82, mz83, mz84, mz85, mz86, mz87, mz88, mz89, mz90, mz91, mz92, mz93, mz94, mz95, mz96, mz97, mz98, mz99, mz100, mz101, mz102, mz103, mz104, mz105, mz106, mz107, mz108, mz109, mz110, mz111, mz112, mz113]
  refine ⟨by first | decide | omega | contradiction | exact absurd trivial (by assumption), ?_⟩
  try (any_goals (exfalso; first | omega | exact absurd trivial (by assumption)))
  refine m_cell hM ?_
  by_cases h1 : isc (wR (gW s)) (wC (gW s)) a = true
  rotate_left
  · rw [if_neg h1]
    rw [if_neg (fun q => h1 q.1), if_neg (fun q => h1 q.1)] at K
    refine ⟨fun q1 => ⟨by first | decide | omega | contradiction | exact absurd trivial (by assumption), ?_⟩, fun q2 => ⟨by first | decide | omega | contradiction | exact absurd trivial (by assumption), ?_⟩⟩
    try (any_goals (exfalso; first | omega | exact absurd trivial (by assumption)))
    exact K v Fm_rf hA
  rw [if_pos h1]
  have h36 := is36 hW h1
  have hcs := hc.2.1 _ h36.2.2.1 h36.2.2.2
  refine ⟨fun q1 => ⟨by first | decide | omega | contradiction | exact absurd trivial (by assumption), ?_⟩, fun q2 => ⟨by first | decide | omega | contradiction | exact absurd trivial (by assumption), ?_⟩⟩
  try (any_goals (exfalso; first | omega | exact absurd trivial (by assumption)))
  refine m_stone (s := cS (gC s) (ixn (wC (gW s)) a)) (k := 1) hW hM (by omega) (hO.2.1 a h1).2 hcs.1 (by omega) ?_
  refine c_M_in ?_
  by_cases h2 : 0 ≤ x ∧ x ≤ wT (gW s) (3 * cS (gC s) (ixn (wC (gW s)) a) + 1)
  rotate_left
  · rw [if_neg h2]
    rw [if_neg (fun q => h2 q.2), if_neg (fun q => h2 q.2)] at K
    refine ⟨fun q1 => ⟨by first | decide | omega | contradiction | exact absurd trivial (by assumption), by first | decide | omega | contradiction | exact absurd trivial (by assumption), ⟨by first | decide | omega | contradiction | exact absurd trivial (by assumption), by first | decide | omega | contradiction | exact absurd trivial (by assumption)⟩, by first | decide | omega | contradiction | exact absurd trivial (by assumption), ?_⟩, fun q2 => ⟨by first | decide | omega | contradiction | exact absurd trivial (by assumption), ?_⟩⟩
    try (any_goals (exfalso; first | omega | exact absurd trivial (by assumption)))
    exact K v Fm_rf hA
  rw [if_pos h2]
  rw [if_pos ⟨h1, h2⟩, if_pos ⟨h1, h2⟩] at K
  refine ⟨fun q1 => ⟨by first | decide | omega | contradiction | exact absurd trivial (by assumption), by first | decide | omega | contradiction | exact absurd trivial (by assumption), ⟨by first | decide | omega | contradiction | exact absurd trivial (by assumption), by first | decide | omega | contradiction | exact absurd trivial (by assumption)⟩, by first | decide | omega | contradiction | exact absurd trivial (by assumption), ?_⟩, fun q2 => ⟨by first | decide | omega | contradiction | exact absurd trivial (by assumption), ?_⟩⟩
  try (any_goals (exfalso; first | omega | exact absurd trivial (by assumption)))
  have hf : ∀ b : Int, b ≠ 97 → (zupd v 97 a x) b = v b := fun b q => zup_a q
  have hQ2 : QM (zupd v 97 a x) (gW s) (cH (gC s), upf (cW (gC s)) (ixn (wC (gW s)) a) x, cS (gC s), cF (gC s), cU (gC s)) (gS s) := by
    refine QM_re (c1 := gC s) (v := v) hA.1 rfl rfl rfl ⟨hc.1, fun b h3 h4 => ?_, hc.2.2⟩ (fun b _ q => hf b q) (fun b hb => ?_)
    · have hq := hc.2.1 b h3 h4
      refine ⟨hq.1, ?_⟩
      show 0 ≤ upf (cW (gC s)) (ixn (wC (gW s)) a) x b ∧ upf (cW (gC s)) (ixn (wC (gW s)) a) x b ≤ wT (gW s) (3 * cS (gC s) b + 1)
      by_cases e : b = ixn (wC (gW s)) a
      · rw [e, upf_s]
        exact h2
      · rw [upf_n e]
        exact hq.2
    · have x4 := (gE hW.1.2 hW.2.1 h1).2.2.2.2.1
      have y4 := (gE hW.1.2 hW.2.1 hb).2.2.2.2.1
      have ob := hO.2.1 b hb
      rw [hf 96 (by omega)]
      refine ⟨?_, ob.2⟩
      show _ = upf (cW (gC s)) (ixn (wC (gW s)) a) x (ixn (wC (gW s)) b)
      by_cases e : b = a
      · rw [e, upf_s, zup_s]
      · have : ¬ ixn (wC (gW s)) b = ixn (wC (gW s)) a := fun q => e (by rw [← y4, q, x4])
        rw [upf_n this, zup_j e]
        exact ob.1
  have e7 : (zupd v 97 a x) 77 = v 77 := hf 77 (by omega)
  exact K _ (fun b q => hf b (by omega)) ⟨hQ2, TM_fr (by rw [e7]) (hf 78 (by omega)) a2, MPa_fr (by rw [e7]) (hf 102 (by omega)) a3, MIm_fr (by rw [e7]) (by rw [e7]) (hf 113 (by omega)) a4, MTo_fr (by rw [e7]) (hf 107 (by omega)) (hf 108 (by omega)) (hf 109 (by omega)) a5⟩
theorem c_M_bake {o f u : Int} {s : zSg} (hA : AM v s) (K : ∀ v' : zH, Fm v v' → AM v' (gBake s o f u) → Q (aBake s o f u) v') : zC l G 1 (d + 2) h_M_bake [(2, 77), (0, o), (0, f), (0, u)] v 115 Q := by
  obtain ⟨⟨⟨hW, hM, hc, hO, hk, hS⟩, q2', q3'⟩, a2, a3, a4, a5⟩ := id hA
  have h3 := hW.2.2.2.2.2.2.2.1
  unfold gBake aBake at K
  refine zC_at ok_M_bake ck_M_bake rfl rfl (sg_M_bake_0 ?_)
  try simp (disch := omega) only [zup_e, zup_ak, zup_j, Int.zero_add, Int.reduceAdd, mz78, mz79, mz80, mz81, mz82, mz83, mz84, mz85, mz86, mz87, mz88, mz89, mz90, mz91, mz92, mz93, mz94, mz95, mz96, mz97, mz98, mz99, mz100, mz101, mz102, mz103, mz104, mz105, mz106, mz107, mz108, mz109, mz110, mz111, mz112, mz113, hM.2.2.2.1]
  refine ⟨by first | decide | omega | contradiction | exact absurd trivial (by assumption), ⟨by first | decide | omega | contradiction | exact absurd trivial (by assumption), by first | decide | omega | contradiction | exact absurd trivial (by assumption)⟩, ?_⟩
  try (any_goals (exfalso; first | omega | exact absurd trivial (by assumption)))
  refine c_M_in ?_
  by_cases ho : 0 ≤ o ∧ o < wO (gW s)
  rotate_left
  · rw [if_neg (by omega)]
    rw [if_neg (fun q => ho q.1), if_neg (fun q => ho q.1)] at K
    refine ⟨fun q1 => ⟨by first | decide | omega | contradiction | exact absurd trivial (by assumption), ?_⟩, fun q2 => ?_⟩
    try (any_goals (exfalso; first | omega | exact absurd trivial (by assumption)))
    exact K v Fm_rf hA
  rw [if_pos (by omega)]
  refine ⟨fun q1 => ⟨by first | decide | omega | contradiction | exact absurd trivial (by assumption), ?_⟩, fun q2 => ?_⟩
  try (any_goals (exfalso; first | omega | exact absurd trivial (by assumption)))
  refine c_M_in ?_
  by_cases h1 : 0 ≤ f ∧ f ≤ 23
  rotate_left
  · rw [if_neg h1]
    rw [if_neg (fun q => h1 q.2.1), if_neg (fun q => h1 q.2.1)] at K
    refine ⟨fun q1 => ⟨by first | decide | omega | contradiction | exact absurd trivial (by assumption), ?_⟩, fun q2 => ?_⟩
    try (any_goals (exfalso; first | omega | exact absurd trivial (by assumption)))
    exact K v Fm_rf hA
  rw [if_pos h1]
  refine ⟨fun q1 => ⟨by first | decide | omega | contradiction | exact absurd trivial (by assumption), ?_⟩, fun q2 => ?_⟩
  try (any_goals (exfalso; first | omega | exact absurd trivial (by assumption)))
  refine c_M_in ?_
  by_cases h2 : 0 ≤ u ∧ u ≤ 23
  rotate_left
  · rw [if_neg h2]
    rw [if_neg (fun q => h2 q.2.2), if_neg (fun q => h2 q.2.2)] at K
    refine ⟨fun q1 => ⟨by first | decide | omega | contradiction | exact absurd trivial (by assumption), ⟨by first | decide | omega | contradiction | exact absurd trivial (by assumption), by first | decide | omega | contradiction | exact absurd trivial (by assumption)⟩, ⟨by first | decide | omega | contradiction | exact absurd trivial (by assumption), by first | decide | omega | contradiction | exact absurd trivial (by assumption)⟩, by first | decide | omega | contradiction | exact absurd trivial (by assumption), ⟨by first | decide | omega | contradiction | exact absurd trivial (by assumption), by first | decide | omega | contradiction | exact absurd trivial (by assumption)⟩, by first | decide | omega | contradiction | exact absurd trivial (by assumption), ⟨by first | decide | omega | contradiction | exact absurd trivial (by assumption), by first | decide | omega | contradiction | exact absurd trivial (by assumption)⟩, ⟨by first | decide | omega | contradiction | exact absurd trivial (by assumption), by first | decide | omega | contradiction | exact absurd trivial (by assumption)⟩, by first | decide | omega | contradiction | exact absurd trivial (by assumption), ⟨by first | decide | omega | contradiction | exact absurd trivial (by assumption), by first | decide | omega | contradiction | exact absurd trivial (by assumption)⟩, by first | decide | omega | contradiction | exact absurd trivial (by assumption), ?_⟩, fun q2 => ⟨by first | decide | omega | contradiction | exact absurd trivial (by assumption), ?_⟩⟩
    try (any_goals (exfalso; first | omega | exact absurd trivial (by assumption)))
    exact K v Fm_rf hA
  rw [if_pos h2]
  rw [if_pos ⟨ho, h1, h2⟩, if_pos ⟨ho, h1, h2⟩] at K
  refine ⟨fun q1 => ⟨by first | decide | omega | contradiction | exact absurd trivial (by assumption), ⟨by first | decide | omega | contradiction | exact absurd trivial (by assumption), by first | decide | omega | contradiction | exact absurd trivial (by assumption)⟩, ⟨by first | decide | omega | contradiction | exact absurd trivial (by assumption), by first | decide | omega | contradiction | exact absurd trivial (by assumption)⟩, by first | decide | omega | contradiction | exact absurd trivial (by assumption), ⟨by first | decide | omega | contradiction | exact absurd trivial (by assumption), by first | decide | omega | contradiction | exact absurd trivial (by assumption)⟩, by first | decide | omega | contradiction | exact absurd trivial (by assumption), ⟨by first | decide | omega | contradiction | exact absurd trivial (by assumption), by first | decide | omega | contradiction | exact absurd trivial (by assumption)⟩, ⟨by first | decide | omega | contradiction | exact absurd trivial (by assumption), by first | decide | omega | contradiction | exact absurd trivial (by assumption)⟩, by first | decide | omega | contradiction | exact absurd trivial (by assumption), ⟨by first | decide | omega | contradiction | exact absurd trivial (by assumption), by first | decide | omega | contradiction | exact absurd trivial (by assumption)⟩, by first | decide | omega | contradiction | exact absurd trivial (by assumption), ?_⟩, fun q2 => ⟨by first | decide | omega | contradiction | exact absurd trivial (by assumption), ?_⟩⟩
  try (any_goals (exfalso; first | omega | exact absurd trivial (by assumption)))
  have hf : ∀ b : Int, b ≠ 94 → (zupd (zupd v 94 (5 * o + 2) f) 94 (5 * o + 3) u) b = v b := fun b q => by rw [zup_a q, zup_a q]
  have hQ2 := QM_ovn (v := v) (f0 := cF (gC s) o) (u0 := cU (gC s) o) ho hc h1 h2 (by rw [cOvn_id]; exact hA.1)
  have e7 := hf 77 (by omega)
  exact K _ (fun b q => hf b (by omega)) ⟨hQ2, TM_fr (by rw [e7]) (hf 78 (by omega)) a2, MPa_fr (by rw [e7]) (hf 102 (by omega)) a3, MIm_fr (by rw [e7]) (by rw [e7]) (hf 113 (by omega)) a4, MTo_fr (by rw [e7]) (hf 107 (by omega)) (hf 108 (by omega)) (hf 109 (by omega)) a5⟩
theorem c_M_image {s : zSg} (hA : AM v s) (K : ∀ v' : zH, Fm v v' → AM v' (gImage s) → Q (aImage s) v') : zC l G 1 (d + 2) h_M_image [(2, 77)] v 115 Q := by
  obtain ⟨⟨⟨hW, hM, hc, hO, hk, hS⟩, q2', q3'⟩, a2, a3, a4, a5⟩ := id hA
  have hR4 := hW.1
  unfold gImage aImage at K
  by_cases hR : wR (gW s) = 0
  · rw [if_neg (by omega), if_neg (by omega)] at K
    refine zC_at ok_M_image ck_M_image rfl rfl (sg_M_image_0 ?_)
    try simp (disch := omega) only [zup_e, zup_ak, zup_j, Int.zero_add, Int.reduceAdd, mz78, mz79, mz80, mz81, mz82, mz83, mz84, mz85, mz86, mz87, mz88, mz89, mz90, mz91, mz92, mz93, mz94, mz95, mz96, mz97, mz98, mz99, mz100, mz101, mz102, mz103, mz104, mz105, mz106, mz107, mz108, mz109, mz110, mz111, mz112, mz113, hM.2.1]
    refine ⟨by first | decide | omega | contradiction | exact absurd trivial (by assumption), ⟨fun q1 => ⟨by first | decide | omega | contradiction | exact absurd trivial (by assumption), by first | decide | omega | contradiction | exact absurd trivial (by assumption), ?_⟩, fun q2 => ?_⟩⟩
    try (any_goals (exfalso; first | omega | exact absurd trivial (by assumption)))
    exact K v Fm_rf hA
  rw [if_pos (by omega), if_pos (by omega)] at K
  refine zC_at ok_M_image ck_M_image rfl rfl (sg_M_image_0 ?_)
  try simp (disch := omega) only [zup_e, zup_ak, zup_j, Int.zero_add, Int.reduceAdd, mz78, mz79, mz80, mz81, mz82, mz83, mz84, mz85, mz86, mz87, mz88, mz89, mz90, mz91, mz92, mz93, mz94, mz95, mz96, mz97, mz98, mz99, mz100, mz101, mz102, mz103, mz104, mz105, mz106, mz107, mz108, mz109, mz110, mz111, mz112, mz113, hM.2.1]
  refine ⟨by first | decide | omega | contradiction | exact absurd trivial (by assumption), ⟨fun q1 => ⟨by first | decide | omega | contradiction | exact absurd trivial (by assumption), by first | decide | omega | contradiction | exact absurd trivial (by assumption), ?_⟩, fun q2 => ?_⟩⟩
  try (any_goals (exfalso; first | omega | exact absurd trivial (by assumption)))
  refine c_M_copy (n := 36) (by decide) (by decide) (by omega) (by omega) (fun v1 f1 f2 => ?_)
  have e36 : v1 77 36 = cH (gC s) := by rw [f1 77 (by omega)]; exact hO.1
  show _
  simp (disch := omega) only [e36, zup_j]
  refine ⟨by first | decide | omega | contradiction | exact absurd trivial (by assumption), by first | decide | omega | contradiction | exact absurd trivial (by assumption), by first | decide | omega | contradiction | exact absurd trivial (by assumption), by first | decide | omega | contradiction | exact absurd trivial (by assumption), by first | decide | omega | contradiction | exact absurd trivial (by assumption), ?_⟩
  have hf : ∀ b : Int, b ≠ 77 → b ≠ 113 → (zupd (zupd v1 77 61 (cH (gC s))) 77 62 1) b = v b := fun b q q' => by rw [zup_a q, zup_a q, f1 b q']
  have hj : ∀ j : Int, j ≠ 61 → j ≠ 62 → (zupd (zupd v1 77 61 (cH (gC s))) 77 62 1) 77 j = v 77 j := fun j q q' => by rw [zup_j q', zup_j q, f1 77 (by omega)]
  refine K _ (fun b q => hf b (by omega) (by omega)) ⟨⟨MQc_fr (fun b q => hf b (by omega) (by omega)) (fun j q => hj j (by omega) (by omega)) hA.1.1, (hj 39 (by omega) (by omega)).trans q2', q3'⟩, TM_fr (hj 2 (by omega) (by omega)) (hf 78 (by omega) (by omega)) a2, MPa_fr (hj 46 (by omega) (by omega)) (hf 102 (by omega) (by omega)) a3, ⟨zup_s, fun _ => ⟨by rw [zup_j (by omega), zup_s]; rfl, fun a ha => ?_⟩⟩, MTo_fr (hj 56 (by omega) (by omega)) (hf 107 (by omega) (by omega)) (hf 108 (by omega) (by omega)) (hf 109 (by omega) (by omega)) a5⟩
  have h36 := is36 hW ha
  rw [zup_a (by omega), zup_a (by omega), f2 a h36.1 h36.2.1]
  exact (hO.2.1 a ha).1
theorem c_M_back {s : zSg} {B : Int} (hG : GOk s B) (hB : B ≤ 900000) (hA : AM v s) (K : ∀ v' : zH, Fm v v' → AM v' (gBack s) → Q (aBack s) v') : zC l G 1 (d + 2) h_M_back [(2, 77)] v 115 Q := by
  obtain ⟨⟨⟨hW, hM, hc, hO, hk, hS⟩, q2', q3'⟩, a2, a3, a4, a5⟩ := id hA
  obtain ⟨g1, g2, g3, g4, g5, g6, g7, g8, g9⟩ := hG
  unfold gBack aBack at K
  have e62 := a4.1
  by_cases hI : (gI s).1 = true
  rotate_left
  · rw [if_neg hI, if_neg hI] at K
    rw [if_neg hI] at e62
    refine zC_at ok_M_back ck_M_back rfl rfl (sg_M_back_0 ?_)
    try simp (disch := omega) only [zup_e, zup_ak, zup_j, Int.zero_add, Int.reduceAdd, mz78, mz79, mz80, mz81, mz82, mz83, mz84, mz85, mz86, mz87, mz88, mz89, mz90, mz91, mz92, mz93, mz94, mz95, mz96, mz97, mz98, mz99, mz100, mz101, mz102, mz103, mz104, mz105, mz106, mz107, mz108, mz109, mz110, mz111, mz112, mz113]
    refine ⟨by first | decide | omega | contradiction | exact absurd trivial (by assumption), ⟨fun q1 => ⟨by first | decide | omega | contradiction | exact absurd trivial (by assumption), by first | decide | omega | contradiction | exact absurd trivial (by assumption), ?_⟩, fun q2 => ?_⟩⟩
    try (any_goals (exfalso; first | omega | exact absurd trivial (by assumption)))
    exact K v Fm_rf hA
  rw [if_pos hI, if_pos hI] at K
  rw [if_pos hI] at e62
  obtain ⟨e61, e113⟩ := a4.2 hI
  obtain ⟨i1, i2⟩ := g9 hI
  refine zC_at ok_M_back ck_M_back rfl rfl (sg_M_back_0 ?_)
  try simp (disch := omega) only [zup_e, zup_ak, zup_j, Int.zero_add, Int.reduceAdd, mz78, mz79, mz80, mz81, mz82, mz83, mz84, mz85, mz86, mz87, mz88, mz89, mz90, mz91, mz92, mz93, mz94, mz95, mz96, mz97, mz98, mz99, mz100, mz101, mz102, mz103, mz104, mz105, mz106, mz107, mz108, mz109, mz110, mz111, mz112, mz113]
  refine ⟨by first | decide | omega | contradiction | exact absurd trivial (by assumption), ⟨fun q1 => ⟨by first | decide | omega | contradiction | exact absurd trivial (by assumption), by first | decide | omega | contradiction | exact absurd trivial (by assumption), ?_⟩, fun q2 => ?_⟩⟩
  try (any_goals (exfalso; first | omega | exact absurd trivial (by assumption)))
  refine c_M_copy (n := 36) (by decide) (by decide) (by omega) (by omega) (fun v1 f1 f2 => ?_)
  have e61' : v1 77 61 = (gI s).2.2 := by rw [f1 77 (by omega)]; exact e61
  show _
  simp (disch := omega) only [e61', zup_j, zup_s]
  refine ⟨by first | decide | omega | contradiction | exact absurd trivial (by assumption), by first | decide | omega | contradiction | exact absurd trivial (by assumption), by first | decide | omega | contradiction | exact absurd trivial (by assumption), by first | decide | omega | contradiction | exact absurd trivial (by assumption), ?_⟩
  have hf : ∀ b : Int, b ≠ 77 → b ≠ 97 → (zupd (zupd v1 77 36 (gI s).2.2) 77 46 0) b = v b := fun b q q' => by rw [zup_a q, zup_a q, f1 b q']
  have hj : ∀ j : Int, j ≠ 36 → j ≠ 46 → (zupd (zupd v1 77 36 (gI s).2.2) 77 46 0) 77 j = v 77 j := fun j q q' => by rw [zup_j q', zup_j q, f1 77 (by omega)]
  refine K _ (fun b q => hf b (by omega) (by omega)) ⟨⟨⟨hW, MW_fr (fun j _ _ => hj j (by omega) (by omega)) (hf 93 (by omega) (by omega)) (fun o _ _ => by rw [hf 94 (by omega) (by omega)]; exact ⟨rfl, rfl, rfl⟩) (hf 95 (by omega) (by omega)) hM, Cok_w hc i2 (by omega), ⟨by rw [zup_j (by omega), zup_s]; rfl, fun a ha => ?_, by rw [hj 39 (by omega) (by omega), hf 94 (by omega) (by omega)]; exact hO.2.2⟩, hk, MS_fr ⟨hj 13 (by omega) (by omega), hj 37 (by omega) (by omega), hj 38 (by omega) (by omega)⟩ (hf 79 (by omega) (by omega)) (hf 80 (by omega) (by omega)) (hf 82 (by omega) (by omega)) (hf 83 (by omega) (by omega)) (hf 84 (by omega) (by omega)) (hf 85 (by omega) (by omega)) hS⟩, (hj 39 (by omega) (by omega)).trans q2', by show (gI s).2.2 ≤ _; omega⟩, TM_fr (hj 2 (by omega) (by omega)) (hf 78 (by omega) (by omega)) a2, ⟨zup_s, by show ([] : zPa).length ≤ 60; decide, fun i f h => by cases h⟩, MIm_fr (hj 62 (by omega) (by omega)) (hj 61 (by omega) (by omega)) (hf 113 (by omega) (by omega)) a4, MTo_fr (hj 56 (by omega) (by omega)) (hf 107 (by omega) (by omega)) (hf 108 (by omega) (by omega)) (hf 109 (by omega) (by omega)) a5⟩
  have h36 := is36 hW ha
  rw [hf 96 (by omega) (by omega)]
  refine ⟨?_, (hO.2.1 a ha).2⟩
  rw [zup_a (by omega), zup_a (by omega), f2 a h36.1 h36.2.1]
  exact e113 a ha
theorem c_M_touched {a n x : Int} {s : zSg} {B : Int} (hG : GOk s B) (hA : AM v s) (K : ∀ v' : zH, Fm v v' → AM v' (gTouched s a n x) → Q (aTouched s a n x) v') : zC l G 1 (d + 2) h_M_touched [(2, 77), (0, a), (0, n), (0, x)] v 115 Q := by
  obtain ⟨⟨⟨hW, hM, hc, hO, hk, hS⟩, q2', q3'⟩, a2, a3, a4, a5⟩ := id hA
  have hT := hG.2.2.2.2.1
  have ht := hT.1
  have e56 := a5.1
  have neg : ¬ (isc (wR (gW s)) (wC (gW s)) a = true ∧ (0 ≤ n ∧ n ≤ 48) ∧ (0 ≤ x ∧ x ≤ 99) ∧ tN (gT s) ≠ 20) → Q (-1) v := by
    intro h
    unfold gTouched aTouched at K
    rw [if_neg (fun r => h (touP_iff.mp r)), if_neg (fun r => h (touP_iff.mp r))] at K
    exact K v Fm_rf hA
  refine zC_at ok_M_touched ck_M_touched rfl rfl (sg_M_touched_0 ?_)
  try simp (disch := omega) only [zup_e, zup_ak, zup_j, Int.zero_add, Int.reduceAdd, mz78, mz79, mz80, mz81, mz82, mz83, mz84, mz85, mz86, mz87, mz88, mz89, mz90, mz91, mz92, mz93, mz94, mz95, mz96, mz97, mz98, mz99, mz100, mz101, mz102, mz103, mz104, mz105, mz106, mz107, mz108, mz109, mz110, mz111, mz112, mz113]
  refine ⟨by first | decide | omega | contradiction | exact absurd trivial (by assumption), ?_⟩
  try (any_goals (exfalso; first | omega | exact absurd trivial (by assumption)))
  refine m_cell hM ?_
  by_cases h1 : isc (wR (gW s)) (wC (gW s)) a = true
  rotate_left
  · rw [if_neg h1]
    have k0 := neg (fun q => h1 q.1)
    refine ⟨fun q1 => ?_, fun q2 => ?_⟩
    try (any_goals (exfalso; first | omega | exact absurd trivial (by assumption)))
    exact k0
  rw [if_pos h1]
  refine ⟨fun q1 => ?_, fun q2 => ?_⟩
  try (any_goals (exfalso; first | omega | exact absurd trivial (by assumption)))
  refine c_M_in ?_
  by_cases h2 : 0 ≤ n ∧ n ≤ 48
  rotate_left
  · rw [if_neg h2]
    have k0 := neg (fun q => h2 q.2.1)
    refine ⟨fun q1 => ?_, fun q2 => ?_⟩
    try (any_goals (exfalso; first | omega | exact absurd trivial (by assumption)))
    exact k0
  rw [if_pos h2]
  refine ⟨fun q1 => ?_, fun q2 => ?_⟩
  try (any_goals (exfalso; first | omega | exact absurd trivial (by assumption)))
  refine c_M_in ?_
  by_cases h3 : 0 ≤ x ∧ x ≤ 99
  rotate_left
  · rw [if_neg h3]
    have k0 := neg (fun q => h3 q.2.2.1)
    refine ⟨fun q1 => ?_, fun q2 => ⟨by first | decide | omega | contradiction | exact absurd trivial (by assumption), ⟨fun q3 => ⟨by first | decide | omega | contradiction | exact absurd trivial (by assumption), by first | decide | omega | contradiction | exact absurd trivial (by assumption), by first | decide | omega | contradiction | exact absurd trivial (by assumption), ⟨by first | decide | omega | contradiction | exact absurd trivial (by assumption), by first | decide | omega | contradiction | exact absurd trivial (by assumption)⟩, by first | decide | omega | contradiction | exact absurd trivial (by assumption), by first | decide | omega | contradiction | exact absurd trivial (by assumption), by first | decide | omega | contradiction | exact absurd trivial (by assumption), ⟨by first | decide | omega | contradiction | exact absurd trivial (by assumption), by first | decide | omega | contradiction | exact absurd trivial (by assumption)⟩, by first | decide | omega | contradiction | exact absurd trivial (by assumption), by first | decide | omega | contradiction | exact absurd trivial (by assumption), by first | decide | omega | contradiction | exact absurd trivial (by assumption), ⟨by first | decide | omega | contradiction | exact absurd trivial (by assumption), by first | decide | omega | contradiction | exact absurd trivial (by assumption)⟩, by first | decide | omega | contradiction | exact absurd trivial (by assumption), ⟨by first | decide | omega | contradiction | exact absurd trivial (by assumption), by first | decide | omega | contradiction | exact absurd trivial (by assumption)⟩, by first | decide | omega | contradiction | exact absurd trivial (by assumption), by first | decide | omega | contradiction | exact absurd trivial (by assumption), ?_⟩, fun q4 => ?_⟩⟩⟩
    try (any_goals (exfalso; first | omega | exact absurd trivial (by assumption)))
    exact k0
  rw [if_pos h3]
  show _
  simp (disch := omega) only [e56, zup_ak, zup_j, zup_s]
  by_cases h4 : tN (gT s) = 20
  · have k0 := neg (fun q => q.2.2.2 h4)
    refine ⟨fun q1 => ?_, fun q2 => ⟨by first | decide | omega | contradiction | exact absurd trivial (by assumption), ⟨fun q3 => ⟨by first | decide | omega | contradiction | exact absurd trivial (by assumption), by first | decide | omega | contradiction | exact absurd trivial (by assumption), by first | decide | omega | contradiction | exact absurd trivial (by assumption), ⟨by first | decide | omega | contradiction | exact absurd trivial (by assumption), by first | decide | omega | contradiction | exact absurd trivial (by assumption)⟩, by first | decide | omega | contradiction | exact absurd trivial (by assumption), by first | decide | omega | contradiction | exact absurd trivial (by assumption), by first | decide | omega | contradiction | exact absurd trivial (by assumption), ⟨by first | decide | omega | contradiction | exact absurd trivial (by assumption), by first | decide | omega | contradiction | exact absurd trivial (by assumption)⟩, by first | decide | omega | contradiction | exact absurd trivial (by assumption), by first | decide | omega | contradiction | exact absurd trivial (by assumption), by first | decide | omega | contradiction | exact absurd trivial (by assumption), ⟨by first | decide | omega | contradiction | exact absurd trivial (by assumption), by first | decide | omega | contradiction | exact absurd trivial (by assumption)⟩, by first | decide | omega | contradiction | exact absurd trivial (by assumption), ⟨by first | decide | omega | contradiction | exact absurd trivial (by assumption), by first | decide | omega | contradiction | exact absurd trivial (by assumption)⟩, by first | decide | omega | contradiction | exact absurd trivial (by assumption), by first | decide | omega | contradiction | exact absurd trivial (by assumption), ?_⟩, fun q4 => ?_⟩⟩⟩
    try (any_goals (exfalso; first | omega | exact absurd trivial (by assumption)))
    exact k0
  unfold gTouched aTouched at K
  rw [if_pos (touP_iff.mpr ⟨h1, h2, h3, h4⟩), if_pos (touP_iff.mpr ⟨h1, h2, h3, h4⟩)] at K
  have hf : ∀ b : Int, b ≠ 77 → b ≠ 107 → b ≠ 108 → b ≠ 109 → (zupd (zupd (zupd (zupd v 107 (tN (gT s)) a) 108 (tN (gT s)) n) 109 (tN (gT s)) x) 77 56 (tN (gT s) + 1)) b = v b := fun b b1 b2 b3 b4 => by rw [zup_a b1, zup_a b4, zup_a b3, zup_a b2]
  have hj : ∀ j : Int, j ≠ 56 → (zupd (zupd (zupd (zupd v 107 (tN (gT s)) a) 108 (tN (gT s)) n) 109 (tN (gT s)) x) 77 56 (tN (gT s) + 1)) 77 j = v 77 j := fun j q => by rw [zup_j q, zup_a (by omega), zup_a (by omega), zup_a (by omega)]
  have x4 := (gE hW.1.2 hW.2.1 h1).2.2.2.2.1
  have fin := K (zupd (zupd (zupd (zupd v 107 (tN (gT s)) a) 108 (tN (gT s)) n) 109 (tN (gT s)) x) 77 56 (tN (gT s) + 1)) (fun b q => hf b (by omega) (by omega) (by omega) (by omega)) ⟨⟨MQc_fr (fun b q => hf b (by omega) (by omega) (by omega) (by omega)) (fun j q => hj j (by omega)) hA.1.1, (hj 39 (by omega)).trans q2', q3'⟩, TM_fr (hj 2 (by omega)) (hf 78 (by omega) (by omega) (by omega) (by omega)) a2, MPa_fr (hj 46 (by omega)) (hf 102 (by omega) (by omega) (by omega) (by omega)) a3, MIm_fr (hj 62 (by omega)) (hj 61 (by omega)) (hf 113 (by omega) (by omega) (by omega) (by omega)) a4, ⟨zup_s, fun k k1 k2 => by
    have k2 : k < tN (gT s) + 1 := k2
    show _ = nmi (wC (gW s)) (upf (tC (gT s)) (tN (gT s)) (ixn (wC (gW s)) a) k) ∧ _ = upf (tH (gT s)) (tN (gT s)) n k ∧ _ = upf (tV (gT s)) (tN (gT s)) x k
    by_cases e : k = tN (gT s)
    · subst e
      simp (disch := omega) only [zup_e, zup_ak, zup_j, upf_s, x4]
      exact ⟨trivial, trivial, trivial⟩
    · rw [upf_n e, upf_n e, upf_n e]
      simp (disch := omega) only [zup_ak, zup_j]
      exact a5.2 k k1 (by omega)⟩⟩
  refine ⟨fun q1 => ?_, fun q2 => ⟨by first | decide | omega | contradiction | exact absurd trivial (by assumption), ⟨fun q3 => ⟨by first | decide | omega | contradiction | exact absurd trivial (by assumption), by first | decide | omega | contradiction | exact absurd trivial (by assumption), by first | decide | omega | contradiction | exact absurd trivial (by assumption), ⟨by first | decide | omega | contradiction | exact absurd trivial (by assumption), by first | decide | omega | contradiction | exact absurd trivial (by assumption)⟩, by first | decide | omega | contradiction | exact absurd trivial (by assumption), by first | decide | omega | contradiction | exact absurd trivial (by assumption), by first | decide | omega | contradiction | exact absurd trivial (by assumption), ⟨by first | decide | omega | contradiction | exact absurd trivial (by assumption), by first | decide | omega | contradiction | exact absurd trivial (by assumption)⟩, by first | decide | omega | contradiction | exact absurd trivial (by assumption), by first | decide | omega | contradiction | exact absurd trivial (by assumption), by first | decide | omega | contradiction | exact absurd trivial (by assumption), ⟨by first | decide | omega | contradiction | exact absurd trivial (by assumption), by first | decide | omega | contradiction | exact absurd trivial (by assumption)⟩, by first | decide | omega | contradiction | exact absurd trivial (by assumption), ⟨by first | decide | omega | contradiction | exact absurd trivial (by assumption), by first | decide | omega | contradiction | exact absurd trivial (by assumption)⟩, by first | decide | omega | contradiction | exact absurd trivial (by assumption), by first | decide | omega | contradiction | exact absurd trivial (by assumption), ?_⟩, fun q4 => ?_⟩⟩⟩
  try (any_goals (exfalso; first | omega | exact absurd trivial (by assumption)))
  exact fin
theorem c_M_count {k : Int} {s : zSg} (hA : AM v s) (K : Q (aCount s k) v) : zC l G 1 (d + 2) h_M_count [(2, 77), (0, k)] v 115 Q := by
  obtain ⟨⟨⟨hW, hM, hc, hO, hk, hS⟩, q2', q3'⟩, a2, a3, a4, a5⟩ := id hA
  have hR0 := hW.2.2.2.2.2.1
  unfold aCount at K
  refine zC_at ok_M_count ck_M_count rfl rfl (sg_M_count_0 ?_)
  try simp (disch := omega) only [zup_e, zup_ak, zup_j, Int.zero_add, Int.reduceAdd, mz78, mz79, mz80, mz81, mz82, mz83, mz84, mz85, mz86, mz87, mz88, mz89, mz90, mz91, mz92, mz93, mz94, mz95, mz96, mz97, mz98, mz99, mz100, mz101, mz102, mz103, mz104, mz105, mz106, mz107, mz108, mz109, mz110, mz111, mz112, mz113, hM.1, hM.2.1, hM.2.2.1, hM.2.2.2.1, hM.2.2.2.2.1, hS.1, a2.1, hO.1, hS.2.2.1, a5.1, a3.1, hS.2.1]
  refine ⟨fun q1 => ?_, fun q2 => ⟨by first | decide | omega | contradiction | exact absurd trivial (by assumption), ?_⟩, fun q3 => ⟨by first | decide | omega | contradiction | exact absurd trivial (by assumption), ⟨fun q4 => ⟨by first | decide | omega | contradiction | exact absurd trivial (by assumption), ?_⟩, fun q5 => ?_⟩⟩, fun q6 => ⟨by first | decide | omega | contradiction | exact absurd trivial (by assumption), ?_⟩, fun q7 => ⟨by first | decide | omega | contradiction | exact absurd trivial (by assumption), ?_⟩, fun q8 => ⟨by first | decide | omega | contradiction | exact absurd trivial (by assumption), ?_⟩, fun q9 => ⟨by first | decide | omega | contradiction | exact absurd trivial (by assumption), ?_⟩, fun q10 => ⟨by first | decide | omega | contradiction | exact absurd trivial (by assumption), ?_⟩, fun q11 => ⟨by first | decide | omega | contradiction | exact absurd trivial (by assumption), ?_⟩, fun q12 => ⟨by first | decide | omega | contradiction | exact absurd trivial (by assumption), ?_⟩, fun q13 => ⟨by first | decide | omega | contradiction | exact absurd trivial (by assumption), ?_⟩, fun q14 => ⟨by first | decide | omega | contradiction | exact absurd trivial (by assumption), ?_⟩, fun q15 => ⟨by first | decide | omega | contradiction | exact absurd trivial (by assumption), ?_⟩, fun q16 => ?_⟩
  try (any_goals (exfalso; first | omega | exact absurd trivial (by assumption)))
  all_goals (repeat (first | rw [if_pos (by omega)] at K | rw [if_neg (by omega)] at K))
  all_goals (first | exact K | (rw [(hR0 (by omega)).1] at K; exact K))
theorem c_M_end {n : Int} {s : zSg} (hA : AM v s) (K : ∀ v' : zH, Fm v v' → AM v' (if 0 ≤ n ∧ n ≤ (gX s).2 then ((gX s).1, n) else gX s, gW s, gC s, gS s, gL s, gI s, gT s) → Q (if 0 ≤ n ∧ n ≤ (gX s).2 then 1 else 0) v') : zC l G 1 (d + 2) h_M_end [(2, 77), (0, n)] v 115 Q := by
  obtain ⟨⟨⟨hW, hM, hc, hO, hk, hS⟩, q2', q3'⟩, a2, a3, a4, a5⟩ := id hA
  have e2 := a2.1
  by_cases h : 0 ≤ n ∧ n ≤ (gX s).2
  · rw [if_pos h, if_pos h] at K
    have hf : ∀ b : Int, b ≠ 77 → (zupd v 77 2 n) b = v b := fun b q => zup_a q
    have hj : ∀ j : Int, j ≠ 2 → (zupd v 77 2 n) 77 j = v 77 j := fun j q => zup_j q
    have fin := K (zupd v 77 2 n) (fun b q => hf b (by omega)) ⟨⟨MQc_fr (fun b q => hf b (by omega)) (fun j q => hj j (by omega)) hA.1.1, (hj 39 (by omega)).trans q2', q3'⟩, ⟨zup_s, fun j h1 h2 => by
      have h2 : j < n := h2
      rw [hf 78 (by omega)]
      exact a2.2 j h1 (by omega)⟩, MPa_fr (hj 46 (by omega)) (hf 102 (by omega)) a3, MIm_fr (hj 62 (by omega)) (hj 61 (by omega)) (hf 113 (by omega)) a4, MTo_fr (hj 56 (by omega)) (hf 107 (by omega)) (hf 108 (by omega)) (hf 109 (by omega)) a5⟩
    refine zC_at ok_M_end ck_M_end rfl rfl (sg_M_end_0 ?_)
    try simp (disch := omega) only [zup_e, zup_ak, zup_j, Int.zero_add, Int.reduceAdd, mz78, mz79, mz80, mz81, mz82, mz83, mz84, mz85, mz86, mz87, mz88, mz89, mz90, mz91, mz92, mz93, mz94, mz95, mz96, mz97, mz98, mz99, mz100, mz101, mz102, mz103, mz104, mz105, mz106, mz107, mz108, mz109, mz110, mz111, mz112, mz113, e2]
    refine ⟨fun q1 => ⟨by first | decide | omega | contradiction | exact absurd trivial (by assumption), ?_⟩, fun q2 => ⟨by first | decide | omega | contradiction | exact absurd trivial (by assumption), ⟨fun q3 => ⟨by first | decide | omega | contradiction | exact absurd trivial (by assumption), by first | decide | omega | contradiction | exact absurd trivial (by assumption), ?_⟩, fun q4 => ⟨by first | decide | omega | contradiction | exact absurd trivial (by assumption), ?_⟩⟩⟩⟩
    try (any_goals (exfalso; first | omega | exact absurd trivial (by assumption)))
    exact fin
  · rw [if_neg h, if_neg h] at K
    have fin := K v Fm_rf hA
    by_cases h0 : n < 0
    · refine zC_at ok_M_end ck_M_end rfl rfl (sg_M_end_0 ?_)
      try simp (disch := omega) only [zup_e, zup_ak, zup_j, Int.zero_add, Int.reduceAdd, mz78, mz79, mz80, mz81, mz82, mz83, mz84, mz85, mz86, mz87, mz88, mz89, mz90, mz91, mz92, mz93, mz94, mz95, mz96, mz97, mz98, mz99, mz100, mz101, mz102, mz103, mz104, mz105, mz106, mz107, mz108, mz109, mz110, mz111, mz112, mz113, e2]
      refine ⟨fun q1 => ⟨by first | decide | omega | contradiction | exact absurd trivial (by assumption), ?_⟩, fun q2 => ⟨by first | decide | omega | contradiction | exact absurd trivial (by assumption), ⟨fun q3 => ⟨by first | decide | omega | contradiction | exact absurd trivial (by assumption), by first | decide | omega | contradiction | exact absurd trivial (by assumption), ?_⟩, fun q4 => ⟨by first | decide | omega | contradiction | exact absurd trivial (by assumption), ?_⟩⟩⟩⟩
      try (any_goals (exfalso; first | omega | exact absurd trivial (by assumption)))
      exact fin
    · refine zC_at ok_M_end ck_M_end rfl rfl (sg_M_end_0 ?_)
      try simp (disch := omega) only [zup_e, zup_ak, zup_j, Int.zero_add, Int.reduceAdd, mz78, mz79, mz80, mz81, mz82, mz83, mz84, mz85, mz86, mz87, mz88, mz89, mz90, mz91, mz92, mz93, mz94, mz95, mz96, mz97, mz98, mz99, mz100, mz101, mz102, mz103, mz104, mz105, mz106, mz107, mz108, mz109, mz110, mz111, mz112, mz113, e2]
      refine ⟨fun q1 => ⟨by first | decide | omega | contradiction | exact absurd trivial (by assumption), ?_⟩, fun q2 => ⟨by first | decide | omega | contradiction | exact absurd trivial (by assumption), ⟨fun q3 => ⟨by first | decide | omega | contradiction | exact absurd trivial (by assumption), by first | decide | omega | contradiction | exact absurd trivial (by assumption), ?_⟩, fun q4 => ⟨by first | decide | omega | contradiction | exact absurd trivial (by assumption), ?_⟩⟩⟩⟩
      try (any_goals (exfalso; first | omega | exact absurd trivial (by assumption)))
      exact fin
end
