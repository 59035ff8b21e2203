/-! THE REFERENCE: questions C: frost, choice, most -/
def NTp (v : zH) (W : zWl) (f : Int → Int) : Prop := ∀ a : Int, isc (wR W) (wC W) a = true → v 103 a = f (ixn (wC W) a)
def TKp (v : zH) (W : zWl) (T : Int → Bool) : Prop := ∀ a : Int, isc (wR W) (wC W) a = true → v 104 a = if T (ixn (wC W) a) = true then 1 else 0
def mBf (W : zWl) (f : Int → Int) (T : Int → Bool) (i : Nat) : Int := fd (fun b o => if isc (wR W) (wC W) o = true then (if T (ixn (wC W) o) = false ∧ (b = -1 ∨ f b < f (ixn (wC W) o)) then ixn (wC W) o else b) else b) (-1) i
def mNm (W : zWl) (b : Int) : Int := if b = -1 then -1 else nmi (wC W) b
theorem mBf_s {W : zWl} {f : Int → Int} {T : Int → Bool} {i : Nat} : mBf W f T (i + 1) = if isc (wR W) (wC W) i = true then (if T (ixn (wC W) i) = false ∧ (mBf W f T i = -1 ∨ f (mBf W f T i) < f (ixn (wC W) i)) then ixn (wC W) i else mBf W f T i) else mBf W f T i := rfl
theorem mBf_36 {W : zWl} {f : Int → Int} {T : Int → Bool} (hW : Wok W) : mBf W f T 36 = sBf f T (wN W).toNat := by
  unfold mBf
  rw [fd_nm (g := fun b x => if T x = false ∧ (b = -1 ∨ f b < f x) then x else b) hW.1 hW.2.1, ← hW.2.2.1]
  rfl
theorem nm36 {W : zWl} (hW : Wok W) {b : Int} (hb : 0 ≤ b ∧ b < wN W) : isc (wR W) (wC W) (nmi (wC W) b) = true ∧ ixn (wC W) (nmi (wC W) b) = b ∧ 0 ≤ nmi (wC W) b ∧ nmi (wC W) b < 36 := by
  have hN := hW.2.2.1
  have h := gN hW.1.2 hW.2.1 (a := b) (by omega)
  have h36 := is36 hW h.1
  exact ⟨h.1, h.2, h36.1, h36.2.1⟩
theorem tk_up {v : zH} {W : zWl} {T : Int → Bool} {b : Int} (hW : Wok W) (hb : 0 ≤ b ∧ b < wN W) (h : TKp v W T) : TKp (zupd v 104 (nmi (wC W) b) 1) W (sTk1 T b) := by
  intro a ha
  have hn := nm36 hW hb
  have x4 := (gE hW.1.2 hW.2.1 ha).2.2.2.2.1
  unfold sTk1
  by_cases e : a = nmi (wC W) b
  · rw [e, zup_s, hn.2.1]
    simp
  · rw [zup_j e, h a ha]
    have : ¬ ixn (wC W) a = b := fun q => e (by rw [← q, x4])
    simp [this]
theorem mw_104 {v v' : zH} {W : zWl} (hM : MW v W) (hF : ∀ b : Int, b ≠ 104 → v' b = v b) : MW v' W := MW_fr (fun j _ _ => by rw [hF 77 (by omega)]) (hF 93 (by omega)) (fun o _ _ => by rw [hF 94 (by omega)]; exact ⟨rfl, rfl, rfl⟩) (hF 95 (by omega)) hM
section
variable {l : Launch} {G : zG} {d : Nat} {v : zH} {Q : Int → zH → Prop} {W : zWl} {c : zCo} {S : zSk}
theorem bfm_4 {f : Int → Int} {T : Int → Bool} {QX : Nat → zH → Prop} (hW : Wok W) (hM : MW v W) (hf : NTp v W f) (hT : TKp v W T) (K : Q (mNm W (sBf f T (wN W).toNat)) v) :
    ∀ (m i : Nat), i + m = 36 → (mBf W f T i = -1 ∨ (0 ≤ mBf W f T i ∧ mBf W f T i < wN W)) → zJ l G 1 (d + 2) h_M_bestFree k_M_bestFree 115 Q QX 4 [(2, 77), (2, 104), (0, mNm W (mBf W f T i)), (0, (i : Int))] [] v 115
  | m, i, hi, hb => by
    match m, hi with
    | 0, hi =>
      have e : i = 36 := by omega
      subst e
      rw [mBf_36 hW] at hb ⊢
      refine zgo ck_M_bestFree 300 4 _ _ _ _ rfl (sg_M_bestFree_4 ?_)
      try simp (disch := omega) only [zup_e, zup_ak, zup_j, Int.zero_add, Int.reduceAdd, mz78, mz79, mz80, mz81, mz82, mz83, mz84, mz85, mz86, mz87, mz88, mz89, mz90, mz91, mz92, mz93, mz94, mz95, mz96, mz97, mz98, mz99, mz100, mz101, mz102, mz103, mz104, mz105, mz106, mz107, mz108, mz109, mz110, mz111, mz112, mz113]
      refine ⟨fun q1 => ?_, fun q2 => ⟨by first | decide | omega | contradiction | exact absurd trivial (by assumption), ?_⟩⟩
      try (any_goals (exfalso; first | omega | exact absurd trivial (by assumption)))
      exact K
    | m + 1, hi =>
      have g := bfm_4 (QX := QX) hW hM hf hT K m (i + 1) (by omega)
      rw [mBf_s] at g
      generalize mBf W f T i = B at g hb ⊢
      have keep : (if isc (wR W) (wC W) i = true then (if T (ixn (wC W) i) = false ∧ (B = -1 ∨ f B < f (ixn (wC W) i)) then ixn (wC W) i else B) else B) = B → zJ l G 1 (d + 2) h_M_bestFree k_M_bestFree 115 Q QX 4 [(2, 77), (2, 104), (0, mNm W B), (0, (i : Int) + 1)] [] v 115 := fun e => by
        rw [e] at g
        exact g hb
      by_cases ha : isc (wR W) (wC W) i = true
      rotate_left
      · have k := keep (if_neg ha)
        refine zgo ck_M_bestFree 300 4 _ _ _ _ rfl (sg_M_bestFree_4 ?_)
        try simp (disch := omega) only [zup_e, zup_ak, zup_j, Int.zero_add, Int.reduceAdd, mz78, mz79, mz80, mz81, mz82, mz83, mz84, mz85, mz86, mz87, mz88, mz89, mz90, mz91, mz92, mz93, mz94, mz95, mz96, mz97, mz98, mz99, mz100, mz101, mz102, mz103, mz104, mz105, mz106, mz107, mz108, mz109, mz110, mz111, mz112, mz113]
        refine ⟨fun q1 => ?_, fun q2 => ⟨by first | decide | omega | contradiction | exact absurd trivial (by assumption), ?_⟩⟩
        try (any_goals (exfalso; first | omega | exact absurd trivial (by assumption)))
        refine m_cell hM ?_
        rw [if_neg ha]
        refine ⟨fun q1 => ⟨⟨by first | decide | omega | contradiction | exact absurd trivial (by assumption), by first | decide | omega | contradiction | exact absurd trivial (by assumption)⟩, ?_⟩, fun q2 => ⟨by first | decide | omega | contradiction | exact absurd trivial (by assumption), ⟨by first | decide | omega | contradiction | exact absurd trivial (by assumption), by first | decide | omega | contradiction | exact absurd trivial (by assumption)⟩, ⟨fun q3 => ⟨⟨by first | decide | omega | contradiction | exact absurd trivial (by assumption), by first | decide | omega | contradiction | exact absurd trivial (by assumption)⟩, ?_⟩, fun q4 => ⟨fun q5 => ⟨⟨by first | decide | omega | contradiction | exact absurd trivial (by assumption), by first | decide | omega | contradiction | exact absurd trivial (by assumption)⟩, ?_⟩, fun q6 => ⟨by first | decide | omega | contradiction | exact absurd trivial (by assumption), by first | decide | omega | contradiction | exact absurd trivial (by assumption), ⟨by first | decide | omega | contradiction | exact absurd trivial (by assumption), by first | decide | omega | contradiction | exact absurd trivial (by assumption)⟩, by first | decide | omega | contradiction | exact absurd trivial (by assumption), by first | decide | omega | contradiction | exact absurd trivial (by assumption), ⟨by first | decide | omega | contradiction | exact absurd trivial (by assumption), by first | decide | omega | contradiction | exact absurd trivial (by assumption)⟩, ⟨fun q7 => ⟨⟨by first | decide | omega | contradiction | exact absurd trivial (by assumption), by first | decide | omega | contradiction | exact absurd trivial (by assumption)⟩, ?_⟩, fun q8 => ⟨⟨by first | decide | omega | contradiction | exact absurd trivial (by assumption), by first | decide | omega | contradiction | exact absurd trivial (by assumption)⟩, ?_⟩⟩⟩⟩⟩⟩⟩
        try (any_goals (exfalso; first | omega | exact absurd trivial (by assumption)))
        exact k
      have h36 := is36 hW ha
      have x4 := (gE hW.1.2 hW.2.1 ha).2.2.2.2.1
      have e103 := hf i ha
      have e104 := hT i ha
      have take : T (ixn (wC W) i) = false ∧ (B = -1 ∨ f B < f (ixn (wC W) i)) → zJ l G 1 (d + 2) h_M_bestFree k_M_bestFree 115 Q QX 4 [(2, 77), (2, 104), (0, (i : Int)), (0, (i : Int) + 1)] [] v 115 := fun e => by
        rw [if_pos ha, if_pos e] at g
        have k := g (Or.inr h36.2.2)
        unfold mNm at k
        rw [if_neg (by omega), x4] at k
        exact k
      rw [if_pos ha] at keep
      cases ht : T (ixn (wC W) i) with
      | true =>
        rw [ht, if_pos rfl] at e104
        have k := keep (if_neg (fun q => by rw [ht] at q; cases q.1))
        refine zgo ck_M_bestFree 300 4 _ _ _ _ rfl (sg_M_bestFree_4 ?_)
        try simp (disch := omega) only [zup_e, zup_ak, zup_j, Int.zero_add, Int.reduceAdd, mz78, mz79, mz80, mz81, mz82, mz83, mz84, mz85, mz86, mz87, mz88, mz89, mz90, mz91, mz92, mz93, mz94, mz95, mz96, mz97, mz98, mz99, mz100, mz101, mz102, mz103, mz104, mz105, mz106, mz107, mz108, mz109, mz110, mz111, mz112, mz113]
        refine ⟨fun q1 => ?_, fun q2 => ⟨by first | decide | omega | contradiction | exact absurd trivial (by assumption), ?_⟩⟩
        try (any_goals (exfalso; first | omega | exact absurd trivial (by assumption)))
        refine m_cell hM ?_
        rw [if_pos ha]
        refine ⟨fun q1 => ⟨⟨by first | decide | omega | contradiction | exact absurd trivial (by assumption), by first | decide | omega | contradiction | exact absurd trivial (by assumption)⟩, ?_⟩, fun q2 => ⟨by first | decide | omega | contradiction | exact absurd trivial (by assumption), ⟨by first | decide | omega | contradiction | exact absurd trivial (by assumption), by first | decide | omega | contradiction | exact absurd trivial (by assumption)⟩, ⟨fun q3 => ⟨⟨by first | decide | omega | contradiction | exact absurd trivial (by assumption), by first | decide | omega | contradiction | exact absurd trivial (by assumption)⟩, ?_⟩, fun q4 => ⟨fun q5 => ⟨⟨by first | decide | omega | contradiction | exact absurd trivial (by assumption), by first | decide | omega | contradiction | exact absurd trivial (by assumption)⟩, ?_⟩, fun q6 => ⟨by first | decide | omega | contradiction | exact absurd trivial (by assumption), by first | decide | omega | contradiction | exact absurd trivial (by assumption), ⟨by first | decide | omega | contradiction | exact absurd trivial (by assumption), by first | decide | omega | contradiction | exact absurd trivial (by assumption)⟩, by first | decide | omega | contradiction | exact absurd trivial (by assumption), by first | decide | omega | contradiction | exact absurd trivial (by assumption), ⟨by first | decide | omega | contradiction | exact absurd trivial (by assumption), by first | decide | omega | contradiction | exact absurd trivial (by assumption)⟩, ⟨fun q7 => ⟨⟨by first | decide | omega | contradiction | exact absurd trivial (by assumption), by first | decide | omega | contradiction | exact absurd trivial (by assumption)⟩, ?_⟩, fun q8 => ⟨⟨by first | decide | omega | contradiction | exact absurd trivial (by assumption), by first | decide | omega | contradiction | exact absurd trivial (by assumption)⟩, ?_⟩⟩⟩⟩⟩⟩⟩
        try (any_goals (exfalso; first | omega | exact absurd trivial (by assumption)))
        exact k
      | false =>
        rw [ht, if_neg (by decide)] at e104
        rcases hb with hb | hb
        · have k := take ⟨ht, Or.inl hb⟩
          rw [show mNm W B = -1 by unfold mNm; rw [if_pos hb]]
          refine zgo ck_M_bestFree 300 4 _ _ _ _ rfl (sg_M_bestFree_4 ?_)
          try simp (disch := omega) only [zup_e, zup_ak, zup_j, Int.zero_add, Int.reduceAdd, mz78, mz79, mz80, mz81, mz82, mz83, mz84, mz85, mz86, mz87, mz88, mz89, mz90, mz91, mz92, mz93, mz94, mz95, mz96, mz97, mz98, mz99, mz100, mz101, mz102, mz103, mz104, mz105, mz106, mz107, mz108, mz109, mz110, mz111, mz112, mz113]
          refine ⟨fun q1 => ?_, fun q2 => ⟨by first | decide | omega | contradiction | exact absurd trivial (by assumption), ?_⟩⟩
          try (any_goals (exfalso; first | omega | exact absurd trivial (by assumption)))
          refine m_cell hM ?_
          rw [if_pos ha]
          refine ⟨fun q1 => ⟨⟨by first | decide | omega | contradiction | exact absurd trivial (by assumption), by first | decide | omega | contradiction | exact absurd trivial (by assumption)⟩, ?_⟩, fun q2 => ⟨by first | decide | omega | contradiction | exact absurd trivial (by assumption), ⟨by first | decide | omega | contradiction | exact absurd trivial (by assumption), by first | decide | omega | contradiction | exact absurd trivial (by assumption)⟩, ⟨fun q3 => ⟨⟨by first | decide | omega | contradiction | exact absurd trivial (by assumption), by first | decide | omega | contradiction | exact absurd trivial (by assumption)⟩, ?_⟩, fun q4 => ⟨fun q5 => ⟨⟨by first | decide | omega | contradiction | exact absurd trivial (by assumption), by first | decide | omega | contradiction | exact absurd trivial (by assumption)⟩, ?_⟩, fun q6 => ⟨by first | decide | omega | contradiction | exact absurd trivial (by assumption), by first | decide | omega | contradiction | exact absurd trivial (by assumption), ⟨by first | decide | omega | contradiction | exact absurd trivial (by assumption), by first | decide | omega | contradiction | exact absurd trivial (by assumption)⟩, by first | decide | omega | contradiction | exact absurd trivial (by assumption), by first | decide | omega | contradiction | exact absurd trivial (by assumption), ⟨by first | decide | omega | contradiction | exact absurd trivial (by assumption), by first | decide | omega | contradiction | exact absurd trivial (by assumption)⟩, ⟨fun q7 => ⟨⟨by first | decide | omega | contradiction | exact absurd trivial (by assumption), by first | decide | omega | contradiction | exact absurd trivial (by assumption)⟩, ?_⟩, fun q8 => ⟨⟨by first | decide | omega | contradiction | exact absurd trivial (by assumption), by first | decide | omega | contradiction | exact absurd trivial (by assumption)⟩, ?_⟩⟩⟩⟩⟩⟩⟩
          try (any_goals (exfalso; first | omega | exact absurd trivial (by assumption)))
          exact k
        · have hn := nm36 hW hb
          have eB : v 103 (nmi (wC W) B) = f B := by rw [hf _ hn.1, hn.2.1]
          have eN : mNm W B = nmi (wC W) B := by unfold mNm; rw [if_neg (by omega)]
          rw [eN] at keep
          rw [eN]
          refine zgo ck_M_bestFree 300 4 _ _ _ _ rfl (sg_M_bestFree_4 ?_)
          try simp (disch := omega) only [zup_e, zup_ak, zup_j, Int.zero_add, Int.reduceAdd, mz78, mz79, mz80, mz81, mz82, mz83, mz84, mz85, mz86, mz87, mz88, mz89, mz90, mz91, mz92, mz93, mz94, mz95, mz96, mz97, mz98, mz99, mz100, mz101, mz102, mz103, mz104, mz105, mz106, mz107, mz108, mz109, mz110, mz111, mz112, mz113]
          refine ⟨fun q1 => ?_, fun q2 => ⟨by first | decide | omega | contradiction | exact absurd trivial (by assumption), ?_⟩⟩
          try (any_goals (exfalso; first | omega | exact absurd trivial (by assumption)))
          refine m_cell hM ?_
          rw [if_pos ha]
          by_cases hlt : f B < f (ixn (wC W) i)
          · have k := take ⟨ht, Or.inr hlt⟩
            refine ⟨fun q1 => ⟨⟨by first | decide | omega | contradiction | exact absurd trivial (by assumption), by first | decide | omega | contradiction | exact absurd trivial (by assumption)⟩, ?_⟩, fun q2 => ⟨by first | decide | omega | contradiction | exact absurd trivial (by assumption), ⟨by first | decide | omega | contradiction | exact absurd trivial (by assumption), by first | decide | omega | contradiction | exact absurd trivial (by assumption)⟩, ⟨fun q3 => ⟨⟨by first | decide | omega | contradiction | exact absurd trivial (by assumption), by first | decide | omega | contradiction | exact absurd trivial (by assumption)⟩, ?_⟩, fun q4 => ⟨fun q5 => ⟨⟨by first | decide | omega | contradiction | exact absurd trivial (by assumption), by first | decide | omega | contradiction | exact absurd trivial (by assumption)⟩, ?_⟩, fun q6 => ⟨by first | decide | omega | contradiction | exact absurd trivial (by assumption), by first | decide | omega | contradiction | exact absurd trivial (by assumption), ⟨by first | decide | omega | contradiction | exact absurd trivial (by assumption), by first | decide | omega | contradiction | exact absurd trivial (by assumption)⟩, by first | decide | omega | contradiction | exact absurd trivial (by assumption), by first | decide | omega | contradiction | exact absurd trivial (by assumption), ⟨by first | decide | omega | contradiction | exact absurd trivial (by assumption), by first | decide | omega | contradiction | exact absurd trivial (by assumption)⟩, ⟨fun q7 => ⟨⟨by first | decide | omega | contradiction | exact absurd trivial (by assumption), by first | decide | omega | contradiction | exact absurd trivial (by assumption)⟩, ?_⟩, fun q8 => ⟨⟨by first | decide | omega | contradiction | exact absurd trivial (by assumption), by first | decide | omega | contradiction | exact absurd trivial (by assumption)⟩, ?_⟩⟩⟩⟩⟩⟩⟩
            try (any_goals (exfalso; first | omega | exact absurd trivial (by assumption)))
            exact k
          · have k := keep (if_neg (fun q => q.2.elim (fun q => by omega) hlt))
            refine ⟨fun q1 => ⟨⟨by first | decide | omega | contradiction | exact absurd trivial (by assumption), by first | decide | omega | contradiction | exact absurd trivial (by assumption)⟩, ?_⟩, fun q2 => ⟨by first | decide | omega | contradiction | exact absurd trivial (by assumption), ⟨by first | decide | omega | contradiction | exact absurd trivial (by assumption), by first | decide | omega | contradiction | exact absurd trivial (by assumption)⟩, ⟨fun q3 => ⟨⟨by first | decide | omega | contradiction | exact absurd trivial (by assumption), by first | decide | omega | contradiction | exact absurd trivial (by assumption)⟩, ?_⟩, fun q4 => ⟨fun q5 => ⟨⟨by first | decide | omega | contradiction | exact absurd trivial (by assumption), by first | decide | omega | contradiction | exact absurd trivial (by assumption)⟩, ?_⟩, fun q6 => ⟨by first | decide | omega | contradiction | exact absurd trivial (by assumption), by first | decide | omega | contradiction | exact absurd trivial (by assumption), ⟨by first | decide | omega | contradiction | exact absurd trivial (by assumption), by first | decide | omega | contradiction | exact absurd trivial (by assumption)⟩, by first | decide | omega | contradiction | exact absurd trivial (by assumption), by first | decide | omega | contradiction | exact absurd trivial (by assumption), ⟨by first | decide | omega | contradiction | exact absurd trivial (by assumption), by first | decide | omega | contradiction | exact absurd trivial (by assumption)⟩, ⟨fun q7 => ⟨⟨by first | decide | omega | contradiction | exact absurd trivial (by assumption), by first | decide | omega | contradiction | exact absurd trivial (by assumption)⟩, ?_⟩, fun q8 => ⟨⟨by first | decide | omega | contradiction | exact absurd trivial (by assumption), by first | decide | omega | contradiction | exact absurd trivial (by assumption)⟩, ?_⟩⟩⟩⟩⟩⟩⟩
            try (any_goals (exfalso; first | omega | exact absurd trivial (by assumption)))
            exact k
theorem c_M_bestFree {f : Int → Int} {T : Int → Bool} (hW : Wok W) (hM : MW v W) (hf : NTp v W f) (hT : TKp v W T) (K : Q (mNm W (sBf f T (wN W).toNat)) v) : zC l G 1 (d + 2) h_M_bestFree [(2, 77), (2, 104)] v 115 Q := by
  refine zC_at ok_M_bestFree ck_M_bestFree rfl rfl (sg_M_bestFree_0 ?_)
  try simp (disch := omega) only [zup_e, zup_ak, zup_j, Int.zero_add, Int.reduceAdd, mz78, mz79, mz80, mz81, mz82, mz83, mz84, mz85, mz86, mz87, mz88, mz89, mz90, mz91, mz92, mz93, mz94, mz95, mz96, mz97, mz98, mz99, mz100, mz101, mz102, mz103, mz104, mz105, mz106, mz107, mz108, mz109, mz110, mz111, mz112, mz113]
  exact bfm_4 hW hM hf hT K 36 0 (by omega) (Or.inl rfl)
theorem c_M_wants {z : Int} (hW : Wok W) (hM : MW v W) (hz : 0 ≤ z ∧ z < wZ W) (K : Q (sAsk W z) v) : zC l G 1 (d + 1) h_M_wants [(2, 77), (0, z)] v 115 Q := by
  have h5 := hW.2.2.2.2.2.2.2.2.1
  have hl := hW.2.2.2.2.2.2.2.2.2.2.2.1 z hz.1 hz.2
  have e1 := hM.2.2.2.2.2.2.2 (2 * z) (by omega) (by omega)
  have e2 := hM.2.2.2.2.2.2.2 (2 * z + 1) (by omega) (by omega)
  unfold sAsk at K
  refine zC_at ok_M_wants ck_M_wants rfl rfl (sg_M_wants_0 ?_)
  try simp (disch := omega) only [zup_e, zup_ak, zup_j, Int.zero_add, Int.reduceAdd, mz78, mz79, mz80, mz81, mz82, mz83, mz84, mz85, mz86, mz87, mz88, mz89, mz90, mz91, mz92, mz93, mz94, mz95, mz96, mz97, mz98, mz99, mz100, mz101, mz102, mz103, mz104, mz105, mz106, mz107, mz108, mz109, mz110, mz111, mz112, mz113, e1, e2]
  refine ⟨by first | decide | omega | contradiction | exact absurd trivial (by assumption), ⟨by first | decide | omega | contradiction | exact absurd trivial (by assumption), by first | decide | omega | contradiction | exact absurd trivial (by assumption)⟩, by first | decide | omega | contradiction | exact absurd trivial (by assumption), ⟨by first | decide | omega | contradiction | exact absurd trivial (by assumption), by first | decide | omega | contradiction | exact absurd trivial (by assumption)⟩, by first | decide | omega | contradiction | exact absurd trivial (by assumption), ⟨by first | decide | omega | contradiction | exact absurd trivial (by assumption), by first | decide | omega | contradiction | exact absurd trivial (by assumption)⟩, ⟨by first | decide | omega | contradiction | exact absurd trivial (by assumption), by first | decide | omega | contradiction | exact absurd trivial (by assumption)⟩, by first | decide | omega | contradiction | exact absurd trivial (by assumption), ⟨by first | decide | omega | contradiction | exact absurd trivial (by assumption), by first | decide | omega | contradiction | exact absurd trivial (by assumption)⟩, ⟨by first | decide | omega | contradiction | exact absurd trivial (by assumption), by first | decide | omega | contradiction | exact absurd trivial (by assumption)⟩, ?_⟩
  exact K
-- who can sleep
theorem csm_2 {s : Int} {v0 : zH} {QX : Nat → zH → Prop} (K : ∀ v' : zH, (∀ b : Int, b ≠ 104 → v' b = v0 b) → (∀ a : Int, 0 ≤ a → a < 36 → v' 104 a = 0) → zJ l G 1 (d + 3) h_M_canSleep k_M_canSleep 115 Q QX 14 [(2, 77), (3, 0), (0, s), (3, 0), (3, 0)] [] v' 115) :
    ∀ (m i : Nat) {v : zH}, i + m = 36 → (∀ b : Int, b ≠ 104 → v b = v0 b) → (∀ a : Int, 0 ≤ a → a < i → v 104 a = 0) → zJ l G 1 (d + 3) h_M_canSleep k_M_canSleep 115 Q QX 2 [(2, 77), (0, s), (0, (i : Int)), (3, 0), (3, 0)] [] v 115
  | m, i, v, hi, hF, hp => by
    match m, hi with
    | 0, hi =>
      refine zgo ck_M_canSleep 300 2 _ _ _ _ rfl (sg_M_canSleep_2 ?_)
      try simp (disch := omega) only [zup_e, zup_ak, zup_j, Int.zero_add, Int.reduceAdd, mz78, mz79, mz80, mz81, mz82, mz83, mz84, mz85, mz86, mz87, mz88, mz89, mz90, mz91, mz92, mz93, mz94, mz95, mz96, mz97, mz98, mz99, mz100, mz101, mz102, mz103, mz104, mz105, mz106, mz107, mz108, mz109, mz110, mz111, mz112, mz113]
      refine ⟨fun q1 => ?_, fun q2 => ⟨by first | decide | omega | contradiction | exact absurd trivial (by assumption), by first | decide | omega | contradiction | exact absurd trivial (by assumption), ⟨by first | decide | omega | contradiction | exact absurd trivial (by assumption), by first | decide | omega | contradiction | exact absurd trivial (by assumption)⟩, by first | decide | omega | contradiction | exact absurd trivial (by assumption), ⟨by first | decide | omega | contradiction | exact absurd trivial (by assumption), by first | decide | omega | contradiction | exact absurd trivial (by assumption)⟩, ?_⟩⟩
      try (any_goals (exfalso; first | omega | exact absurd trivial (by assumption)))
      exact K v hF (fun a a1 a2 => hp a a1 (by omega))
    | m + 1, hi =>
      refine zgo ck_M_canSleep 300 2 _ _ _ _ rfl (sg_M_canSleep_2 ?_)
      try simp (disch := omega) only [zup_e, zup_ak, zup_j, Int.zero_add, Int.reduceAdd, mz78, mz79, mz80, mz81, mz82, mz83, mz84, mz85, mz86, mz87, mz88, mz89, mz90, mz91, mz92, mz93, mz94, mz95, mz96, mz97, mz98, mz99, mz100, mz101, mz102, mz103, mz104, mz105, mz106, mz107, mz108, mz109, mz110, mz111, mz112, mz113]
      refine ⟨fun q1 => ?_, fun q2 => ⟨by first | decide | omega | contradiction | exact absurd trivial (by assumption), by first | decide | omega | contradiction | exact absurd trivial (by assumption), ⟨by first | decide | omega | contradiction | exact absurd trivial (by assumption), by first | decide | omega | contradiction | exact absurd trivial (by assumption)⟩, by first | decide | omega | contradiction | exact absurd trivial (by assumption), ⟨by first | decide | omega | contradiction | exact absurd trivial (by assumption), by first | decide | omega | contradiction | exact absurd trivial (by assumption)⟩, ?_⟩⟩
      try (any_goals (exfalso; first | omega | exact absurd trivial (by assumption)))
      refine csm_2 K m (i + 1) (by omega) (fun b q => (zup_a q).trans (hF b q)) (fun a a1 a2 => ?_)
      by_cases e : a = i
      · rw [e, zup_s]
      · rw [zup_j e]
        exact hp a a1 (by omega)
theorem csm_20 {x : Int} {f : Int → Int} {T : Int → Bool} {QX : Nat → zH → Prop} (hW : Wok W) (hM : MW v W) (hf : NTp v W f) (hT : TKp v W T) (h0 : sBf (sAsk W) (fun z => !sBt x z) (wZ W).toNat ≠ -1)
    (K0 : (sBf f T (wN W).toNat = -1 ∨ f (sBf f T (wN W).toNat) < sAsk W (sBf (sAsk W) (fun z => !sBt x z) (wZ W).toNat)) → Q 0 v)
    (K1 : (0 ≤ sBf f T (wN W).toNat ∧ sBf f T (wN W).toNat < wN W) → sAsk W (sBf (sAsk W) (fun z => !sBt x z) (wZ W).toNat) ≤ f (sBf f T (wN W).toNat) → zJ l G 1 (d + 3) h_M_canSleep k_M_canSleep 115 Q QX 14 [(2, 77), (3, 0), (0, zand x (zxor (zshl 1 (sBf (sAsk W) (fun z => !sBt x z) (wZ W).toNat)) (-1))), (3, 0), (3, 0)] [] (zupd v 104 (nmi (wC W) (sBf f T (wN W).toNat)) 1) 115) :
    ∀ (m i : Nat), (i : Int) + m = wZ W → zJ l G 1 (d + 3) h_M_canSleep k_M_canSleep 115 Q QX 20 [(2, 77), (3, 0), (0, x), (0, sBf (sAsk W) (fun z => !sBt x z) i), (0, (i : Int))] [] v 115
  | m, i, hi => by
    have hZ := hW.2.2.2.2.2.2.2.2.1
    have eZ := hM.2.2.2.2.1
    match m, hi with
    | 0, hi =>
      have e : i = (wZ W).toNat := by omega
      have hb := bf_b (f := f) (T := T) (wN W).toNat
      have hm := bf_b (f := sAsk W) (T := fun z => !sBt x z) (wZ W).toNat
      rw [e]
      generalize sBf (sAsk W) (fun z => !sBt x z) (wZ W).toNat = M at *
      refine zgo ck_M_canSleep 300 20 _ _ _ _ rfl (sg_M_canSleep_20 ?_)
      try simp (disch := omega) only [zup_e, zup_ak, zup_j, Int.zero_add, Int.reduceAdd, mz78, mz79, mz80, mz81, mz82, mz83, mz84, mz85, mz86, mz87, mz88, mz89, mz90, mz91, mz92, mz93, mz94, mz95, mz96, mz97, mz98, mz99, mz100, mz101, mz102, mz103, mz104, mz105, mz106, mz107, mz108, mz109, mz110, mz111, mz112, mz113, eZ]
      refine ⟨by first | decide | omega | contradiction | exact absurd trivial (by assumption), ⟨fun q1 => ⟨by first | decide | omega | contradiction | exact absurd trivial (by assumption), by first | decide | omega | contradiction | exact absurd trivial (by assumption), ?_⟩, fun q2 => ?_⟩⟩
      try (any_goals (exfalso; first | omega | exact absurd trivial (by assumption)))
      refine c_M_bestFree hW hM hf hT ?_
      generalize sBf f T (wN W).toNat = B at *
      rcases hb with hb | hb
      · have k := K0 (Or.inl hb)
        rw [show mNm W B = -1 by unfold mNm; rw [if_pos hb]]
        refine ⟨fun q1 => ⟨by first | decide | omega | contradiction | exact absurd trivial (by assumption), ?_⟩, fun q2 => ⟨by first | decide | omega | contradiction | exact absurd trivial (by assumption), by first | decide | omega | contradiction | exact absurd trivial (by assumption), ⟨by first | decide | omega | contradiction | exact absurd trivial (by assumption), by first | decide | omega | contradiction | exact absurd trivial (by assumption)⟩, by first | decide | omega | contradiction | exact absurd trivial (by assumption), ?_⟩⟩
        try (any_goals (exfalso; first | omega | exact absurd trivial (by assumption)))
        exact k
      · have hn := nm36 hW (b := B) (by omega)
        have eB : v 103 (nmi (wC W) B) = f B := by rw [hf _ hn.1, hn.2.1]
        rw [show mNm W B = nmi (wC W) B by unfold mNm; rw [if_neg (by omega)]]
        refine ⟨fun q1 => ⟨by first | decide | omega | contradiction | exact absurd trivial (by assumption), ?_⟩, fun q2 => ⟨by first | decide | omega | contradiction | exact absurd trivial (by assumption), by first | decide | omega | contradiction | exact absurd trivial (by assumption), ⟨by first | decide | omega | contradiction | exact absurd trivial (by assumption), by first | decide | omega | contradiction | exact absurd trivial (by assumption)⟩, by first | decide | omega | contradiction | exact absurd trivial (by assumption), ?_⟩⟩
        try (any_goals (exfalso; first | omega | exact absurd trivial (by assumption)))
        refine c_M_wants hW hM (by omega) ?_
        by_cases hlt : f B < sAsk W M
        · have k := K0 (Or.inr hlt)
          refine ⟨fun q1 => ⟨by first | decide | omega | contradiction | exact absurd trivial (by assumption), by first | decide | omega | contradiction | exact absurd trivial (by assumption), ⟨by first | decide | omega | contradiction | exact absurd trivial (by assumption), by first | decide | omega | contradiction | exact absurd trivial (by assumption)⟩, by first | decide | omega | contradiction | exact absurd trivial (by assumption), ?_⟩, fun q2 => ⟨by first | decide | omega | contradiction | exact absurd trivial (by assumption), ?_⟩⟩
          try (any_goals (exfalso; first | omega | exact absurd trivial (by assumption)))
          exact k
        · have k := K1 (by omega) (by omega)
          refine ⟨fun q1 => ⟨by first | decide | omega | contradiction | exact absurd trivial (by assumption), by first | decide | omega | contradiction | exact absurd trivial (by assumption), ⟨by first | decide | omega | contradiction | exact absurd trivial (by assumption), by first | decide | omega | contradiction | exact absurd trivial (by assumption)⟩, by first | decide | omega | contradiction | exact absurd trivial (by assumption), ?_⟩, fun q2 => ⟨by first | decide | omega | contradiction | exact absurd trivial (by assumption), ?_⟩⟩
          try (any_goals (exfalso; first | omega | exact absurd trivial (by assumption)))
          exact k
    | m + 1, hi =>
      have g := csm_20 (QX := QX) hW hM hf hT h0 K0 K1 m (i + 1) (by omega)
      have hb := bf_b (f := sAsk W) (T := fun z => !sBt x z) i
      rw [bf_s] at g
      generalize sBf (sAsk W) (fun z => !sBt x z) i = B at g hb ⊢
      refine zgo ck_M_canSleep 300 20 _ _ _ _ rfl (sg_M_canSleep_20 ?_)
      try simp (disch := omega) only [zup_e, zup_ak, zup_j, Int.zero_add, Int.reduceAdd, mz78, mz79, mz80, mz81, mz82, mz83, mz84, mz85, mz86, mz87, mz88, mz89, mz90, mz91, mz92, mz93, mz94, mz95, mz96, mz97, mz98, mz99, mz100, mz101, mz102, mz103, mz104, mz105, mz106, mz107, mz108, mz109, mz110, mz111, mz112, mz113, eZ]
      refine ⟨by first | decide | omega | contradiction | exact absurd trivial (by assumption), ⟨fun q1 => ⟨by first | decide | omega | contradiction | exact absurd trivial (by assumption), by first | decide | omega | contradiction | exact absurd trivial (by assumption), ?_⟩, fun q2 => ?_⟩⟩
      try (any_goals (exfalso; first | omega | exact absurd trivial (by assumption)))
      refine c_M_has ?_
      by_cases hs : sBt x i = true
      rotate_left
      · rw [if_neg (fun q => by simp [hs] at q)] at g
        rw [if_neg hs]
        refine ⟨fun q1 => ⟨⟨by first | decide | omega | contradiction | exact absurd trivial (by assumption), by first | decide | omega | contradiction | exact absurd trivial (by assumption)⟩, ?_⟩, fun q2 => ⟨fun q3 => ⟨⟨by first | decide | omega | contradiction | exact absurd trivial (by assumption), by first | decide | omega | contradiction | exact absurd trivial (by assumption)⟩, ?_⟩, fun q4 => ⟨by first | decide | omega | contradiction | exact absurd trivial (by assumption), ?_⟩⟩⟩
        try (any_goals (exfalso; first | omega | exact absurd trivial (by assumption)))
        exact g
      rw [if_pos hs]
      rcases hb with hb | hb
      · rw [if_pos ⟨by simp [hs], Or.inl hb⟩] at g
        refine ⟨fun q1 => ⟨⟨by first | decide | omega | contradiction | exact absurd trivial (by assumption), by first | decide | omega | contradiction | exact absurd trivial (by assumption)⟩, ?_⟩, fun q2 => ⟨fun q3 => ⟨⟨by first | decide | omega | contradiction | exact absurd trivial (by assumption), by first | decide | omega | contradiction | exact absurd trivial (by assumption)⟩, ?_⟩, fun q4 => ⟨by first | decide | omega | contradiction | exact absurd trivial (by assumption), ?_⟩⟩⟩
        try (any_goals (exfalso; first | omega | exact absurd trivial (by assumption)))
        exact g
      · refine ⟨fun q1 => ⟨⟨by first | decide | omega | contradiction | exact absurd trivial (by assumption), by first | decide | omega | contradiction | exact absurd trivial (by assumption)⟩, ?_⟩, fun q2 => ⟨fun q3 => ⟨⟨by first | decide | omega | contradiction | exact absurd trivial (by assumption), by first | decide | omega | contradiction | exact absurd trivial (by assumption)⟩, ?_⟩, fun q4 => ⟨by first | decide | omega | contradiction | exact absurd trivial (by assumption), ?_⟩⟩⟩
        try (any_goals (exfalso; first | omega | exact absurd trivial (by assumption)))
        refine c_M_wants hW hM (by omega) ?_
        refine ⟨by first | decide | omega | contradiction | exact absurd trivial (by assumption), ?_⟩
        try (any_goals (exfalso; first | omega | exact absurd trivial (by assumption)))
        refine c_M_wants hW hM (by omega) ?_
        by_cases hlt : sAsk W B < sAsk W i
        · rw [if_pos ⟨by simp [hs], Or.inr hlt⟩] at g
          refine ⟨fun q1 => ⟨⟨by first | decide | omega | contradiction | exact absurd trivial (by assumption), by first | decide | omega | contradiction | exact absurd trivial (by assumption)⟩, ?_⟩, fun q2 => ⟨⟨by first | decide | omega | contradiction | exact absurd trivial (by assumption), by first | decide | omega | contradiction | exact absurd trivial (by assumption)⟩, ?_⟩⟩
          try (any_goals (exfalso; first | omega | exact absurd trivial (by assumption)))
          exact g
        · rw [if_neg (fun q => q.2.elim (fun q => by omega) hlt)] at g
          refine ⟨fun q1 => ⟨⟨by first | decide | omega | contradiction | exact absurd trivial (by assumption), by first | decide | omega | contradiction | exact absurd trivial (by assumption)⟩, ?_⟩, fun q2 => ⟨⟨by first | decide | omega | contradiction | exact absurd trivial (by assumption), by first | decide | omega | contradiction | exact absurd trivial (by assumption)⟩, ?_⟩⟩
          try (any_goals (exfalso; first | omega | exact absurd trivial (by assumption)))
          exact g
theorem csm_14 {s : Int} {f : Int → Int} {v0 : zH} {QX : Nat → zH → Prop} (hW : Wok W) (hM : MW v0 W) (hf : NTp v0 W f) (K : ∀ v' : zH, (∀ b : Int, b ≠ 104 → v' b = v0 b) → Q (if sAll W f s = true then 1 else 0) v') :
    ∀ (m : Nat) {x : Int} {T : Int → Bool} {v : zH}, x ≤ m → (0 ≤ x ∧ x < ((2 ^ (wZ W).toNat : Nat) : Int)) → GI (sBt s) (sBt x) T (sAsk W) f (wZ W).toNat (wN W).toNat → (∀ b : Int, b ≠ 104 → v b = v0 b) → TKp v W T → zJ l G 1 (d + 3) h_M_canSleep k_M_canSleep 115 Q QX 14 [(2, 77), (3, 0), (0, x), (3, 0), (3, 0)] [] v 115
  | m, x, T, v, hx, hxb, hG, hF, hT => by
    have hZ := hW.2.2.2.2.2.2.2.2.1
    have hN := hW.2.2.2.1
    have p5 := pow5 (n := (wZ W).toNat) (by omega)
    have hMv := mw_104 hM hF
    have hfv : NTp v W f := fun a ha => by rw [hF 103 (by omega)]; exact hf a ha
    by_cases h0 : x = 0
    · subst h0
      have ha := all_yes hG (fun z h1 h2 => bit_z (by omega))
      have k := K v hF
      rw [if_pos ha] at k
      refine zgo ck_M_canSleep 300 14 _ _ _ _ rfl (sg_M_canSleep_14 ?_)
      try simp (disch := omega) only [zup_e, zup_ak, zup_j, Int.zero_add, Int.reduceAdd, mz78, mz79, mz80, mz81, mz82, mz83, mz84, mz85, mz86, mz87, mz88, mz89, mz90, mz91, mz92, mz93, mz94, mz95, mz96, mz97, mz98, mz99, mz100, mz101, mz102, mz103, mz104, mz105, mz106, mz107, mz108, mz109, mz110, mz111, mz112, mz113]
      refine ⟨fun q1 => ⟨by first | decide | omega | contradiction | exact absurd trivial (by assumption), ?_⟩, fun q2 => ?_⟩
      try (any_goals (exfalso; first | omega | exact absurd trivial (by assumption)))
      exact k
    · match m, hx with
      | 0, hx => exact absurd hx (by omega)
      | m + 1, hx =>
        have bz := bf_b (f := sAsk W) (T := fun z => !sBt x z) (wZ W).toNat
        have bx := bf_x (f := sAsk W) (T := fun z => !sBt x z) (wZ W).toNat
        have fx := bf_x (f := f) (T := T) (wN W).toNat
        have hne : sBf (sAsk W) (fun z => !sBt x z) (wZ W).toNat ≠ -1 := fun q => by
          obtain ⟨z, z1, z2, z3⟩ := bit_e (n := wZ W) (by omega) hxb h0
          have := bx.1 q z z1 (by omega)
          simp [z3] at this
        have bt := bx.2 hne
        have bl : sBt x (sBf (sAsk W) (fun z => !sBt x z) (wZ W).toNat) = true := by simpa using bt.1
        have bm : ∀ y : Int, 0 ≤ y → y < (wZ W).toNat → sBt x y = true → sAsk W y ≤ sAsk W (sBf (sAsk W) (fun z => !sBt x z) (wZ W).toNat) := fun y y1 y2 y3 => bt.2 y y1 y2 (by simp [y3])
        have br := bit_r (x := x) (m := sBf (sAsk W) (fun z => !sBt x z) (wZ W).toNat) (by omega) (by omega) bl
        refine zgo ck_M_canSleep 300 14 _ _ _ _ rfl (sg_M_canSleep_14 ?_)
        try simp (disch := omega) only [zup_e, zup_ak, zup_j, Int.zero_add, Int.reduceAdd, mz78, mz79, mz80, mz81, mz82, mz83, mz84, mz85, mz86, mz87, mz88, mz89, mz90, mz91, mz92, mz93, mz94, mz95, mz96, mz97, mz98, mz99, mz100, mz101, mz102, mz103, mz104, mz105, mz106, mz107, mz108, mz109, mz110, mz111, mz112, mz113]
        refine ⟨fun q1 => ⟨by first | decide | omega | contradiction | exact absurd trivial (by assumption), ?_⟩, fun q2 => ?_⟩
        try (any_goals (exfalso; first | omega | exact absurd trivial (by assumption)))
        refine csm_20 hW hMv hfv hT hne (fun q => ?_) (fun q1' q2' => ?_) (wZ W).toNat 0 (by omega)
        · have hno := all_no hG (m := sBf (sAsk W) (fun z => !sBt x z) (wZ W).toNat) (by omega) bl (fun a a1 a2 a3 => by
            by_cases e : sBf f T (wN W).toNat = -1
            · have := fx.1 e a a1 a2
              rw [a3] at this; cases this
            · have h1 := (fx.2 e).2 a a1 a2 a3
              have h2 := q.resolve_left e
              omega)
          have k := K v hF
          rw [if_neg (by rw [hno]; decide)] at k
          exact k
        · refine csm_14 hW hM hf K m (by omega) (by omega) (gi_s hG (by omega) bl bm (by omega) (fx.2 (by omega)).1 q2' (fun z z1 z2 => br.2.2 z z1 (by omega))) (fun b q => (zup_a q).trans (hF b q)) (tk_up hW q1' hT)
theorem c_M_canSleep {s : Int} {f : Int → Int} (hW : Wok W) (hM : MW v W) (hf : NTp v W f) (hs : 0 ≤ s ∧ s < ((2 ^ (wZ W).toNat : Nat) : Int)) (K : ∀ v' : zH, (∀ b : Int, b ≠ 104 → v' b = v b) → Q (if sAll W f s = true then 1 else 0) v') : zC l G 1 (d + 3) h_M_canSleep [(2, 77), (0, s)] v 115 Q := by
  refine zC_at ok_M_canSleep ck_M_canSleep rfl rfl (sg_M_canSleep_0 ?_)
  try simp (disch := omega) only [zup_e, zup_ak, zup_j, Int.zero_add, Int.reduceAdd, mz78, mz79, mz80, mz81, mz82, mz83, mz84, mz85, mz86, mz87, mz88, mz89, mz90, mz91, mz92, mz93, mz94, mz95, mz96, mz97, mz98, mz99, mz100, mz101, mz102, mz103, mz104, mz105, mz106, mz107, mz108, mz109, mz110, mz111, mz112, mz113]
  refine csm_2 (v0 := v) (fun v1 f1 f2 => ?_) 36 0 (by omega) (fun _ _ => rfl) (fun a a1 a2 => by omega)
  refine csm_14 hW hM hf K s.toNat (by omega) hs gi_0 f1 (fun a ha => ?_)
  have h36 := is36 hW ha
  rw [f2 a h36.1 h36.2.1]
  rfl
-- the choice
theorem chm_24 {n : Nat} {f : Int → Int} {v0 : zH} {QX : Nat → zH → Prop} (hW : Wok W) (hM : MW v0 W) (hn : n ≤ 5) (hf : NTp v0 W f) (K : ∀ v' : zH, (∀ b : Int, b ≠ 104 → v' b = v0 b) → Q (mNm W (sCh f (wN W).toNat (n + 1)).1) v') :
    ∀ (m i : Nat) {v : zH}, i + m = n + 1 → (∀ b : Int, b ≠ 104 → v b = v0 b) → TKp v W (sCh f (wN W).toNat i).2 → zJ l G 1 (d + 3) h_M_choice k_M_choice 115 Q QX 24 [(2, 77), (0, (n : Int)), (0, mNm W (sCh f (wN W).toNat i).1), (0, (i : Int))] [] v 115
  | m, i, v, hi, hF, hT => by
    have hMv := mw_104 hM hF
    have hfv : NTp v W f := fun a ha => by rw [hF 103 (by omega)]; exact hf a ha
    match m, hi with
    | 0, hi =>
      have e : i = n + 1 := by omega
      subst e
      refine zgo ck_M_choice 300 24 _ _ _ _ rfl (sg_M_choice_24 ?_)
      try simp (disch := omega) only [zup_e, zup_ak, zup_j, Int.zero_add, Int.reduceAdd, mz78, mz79, mz80, mz81, mz82, mz83, mz84, mz85, mz86, mz87, mz88, mz89, mz90, mz91, mz92, mz93, mz94, mz95, mz96, mz97, mz98, mz99, mz100, mz101, mz102, mz103, mz104, mz105, mz106, mz107, mz108, mz109, mz110, mz111, mz112, mz113]
      refine ⟨fun q1 => ?_, fun q2 => ⟨by first | decide | omega | contradiction | exact absurd trivial (by assumption), by first | decide | omega | contradiction | exact absurd trivial (by assumption), ?_⟩⟩
      try (any_goals (exfalso; first | omega | exact absurd trivial (by assumption)))
      exact K v hF
    | m + 1, hi =>
      have g := fun {v : zH} => chm_24 (v := v) (QX := QX) hW hM hn hf K m (i + 1) (by omega)
      have hN := hW.2.2.2.1
      have hb := bf_b (f := f) (T := (sCh f (wN W).toNat i).2) (wN W).toNat
      rw [ch_s] at g
      refine zgo ck_M_choice 300 24 _ _ _ _ rfl (sg_M_choice_24 ?_)
      try simp (disch := omega) only [zup_e, zup_ak, zup_j, Int.zero_add, Int.reduceAdd, mz78, mz79, mz80, mz81, mz82, mz83, mz84, mz85, mz86, mz87, mz88, mz89, mz90, mz91, mz92, mz93, mz94, mz95, mz96, mz97, mz98, mz99, mz100, mz101, mz102, mz103, mz104, mz105, mz106, mz107, mz108, mz109, mz110, mz111, mz112, mz113]
      refine ⟨fun q1 => ?_, fun q2 => ⟨by first | decide | omega | contradiction | exact absurd trivial (by assumption), by first | decide | omega | contradiction | exact absurd trivial (by assumption), ?_⟩⟩
      try (any_goals (exfalso; first | omega | exact absurd trivial (by assumption)))
      refine c_M_bestFree hW hMv hfv hT ?_
      generalize sBf f (sCh f (wN W).toNat i).2 (wN W).toNat = B at g hb ⊢
      rcases hb with hb | hb
      · rw [if_pos hb] at g
        have k := g hF hT
        have eN : mNm W B = -1 := by unfold mNm; rw [if_pos hb]
        simp only [eN] at k
        rw [eN]
        refine ⟨fun q1 => ⟨⟨by first | decide | omega | contradiction | exact absurd trivial (by assumption), by first | decide | omega | contradiction | exact absurd trivial (by assumption)⟩, ?_⟩, fun q2 => ⟨by first | decide | omega | contradiction | exact absurd trivial (by assumption), by first | decide | omega | contradiction | exact absurd trivial (by assumption), ⟨by first | decide | omega | contradiction | exact absurd trivial (by assumption), by first | decide | omega | contradiction | exact absurd trivial (by assumption)⟩, by first | decide | omega | contradiction | exact absurd trivial (by assumption), ⟨by first | decide | omega | contradiction | exact absurd trivial (by assumption), by first | decide | omega | contradiction | exact absurd trivial (by assumption)⟩, ?_⟩⟩
        try (any_goals (exfalso; first | omega | exact absurd trivial (by assumption)))
        exact k
      · rw [if_neg (by omega)] at g
        have hn := nm36 hW (b := B) (by omega)
        have eN : mNm W B = nmi (wC W) B := by unfold mNm; rw [if_neg (by omega)]
        have k := g (v := zupd v 104 (nmi (wC W) B) 1) (fun b q => (zup_a q).trans (hF b q)) (tk_up hW (by omega) hT)
        simp only [eN] at k
        rw [eN]
        refine ⟨fun q1 => ⟨⟨by first | decide | omega | contradiction | exact absurd trivial (by assumption), by first | decide | omega | contradiction | exact absurd trivial (by assumption)⟩, ?_⟩, fun q2 => ⟨by first | decide | omega | contradiction | exact absurd trivial (by assumption), by first | decide | omega | contradiction | exact absurd trivial (by assumption), ⟨by first | decide | omega | contradiction | exact absurd trivial (by assumption), by first | decide | omega | contradiction | exact absurd trivial (by assumption)⟩, by first | decide | omega | contradiction | exact absurd trivial (by assumption), ⟨by first | decide | omega | contradiction | exact absurd trivial (by assumption), by first | decide | omega | contradiction | exact absurd trivial (by assumption)⟩, ?_⟩⟩
        try (any_goals (exfalso; first | omega | exact absurd trivial (by assumption)))
        exact k
theorem chm_10 {n : Int} {v0 : zH} {QX : Nat → zH → Prop} (K : ∀ v' : zH, (∀ b : Int, b ≠ 104 → v' b = v0 b) → (∀ a : Int, 0 ≤ a → a < 36 → v' 104 a = 0) → zJ l G 1 (d + 3) h_M_choice k_M_choice 115 Q QX 24 [(2, 77), (0, n), (0, -1), (0, 0)] [] v' 115) :
    ∀ (m i : Nat) {v : zH}, i + m = 36 → (∀ b : Int, b ≠ 104 → v b = v0 b) → (∀ a : Int, 0 ≤ a → a < i → v 104 a = 0) → zJ l G 1 (d + 3) h_M_choice k_M_choice 115 Q QX 10 [(2, 77), (0, n), (0, (i : Int)), (3, 0)] [] v 115
  | m, i, v, hi, hF, hp => by
    match m, hi with
    | 0, hi =>
      refine zgo ck_M_choice 300 10 _ _ _ _ rfl (sg_M_choice_10 ?_)
      try simp (disch := omega) only [zup_e, zup_ak, zup_j, Int.zero_add, Int.reduceAdd, mz78, mz79, mz80, mz81, mz82, mz83, mz84, mz85, mz86, mz87, mz88, mz89, mz90, mz91, mz92, mz93, mz94, mz95, mz96, mz97, mz98, mz99, mz100, mz101, mz102, mz103, mz104, mz105, mz106, mz107, mz108, mz109, mz110, mz111, mz112, mz113]
      refine ⟨fun q1 => ?_, fun q2 => ⟨by first | decide | omega | contradiction | exact absurd trivial (by assumption), by first | decide | omega | contradiction | exact absurd trivial (by assumption), ⟨by first | decide | omega | contradiction | exact absurd trivial (by assumption), by first | decide | omega | contradiction | exact absurd trivial (by assumption)⟩, by first | decide | omega | contradiction | exact absurd trivial (by assumption), ⟨by first | decide | omega | contradiction | exact absurd trivial (by assumption), by first | decide | omega | contradiction | exact absurd trivial (by assumption)⟩, ?_⟩⟩
      try (any_goals (exfalso; first | omega | exact absurd trivial (by assumption)))
      exact K v hF (fun a a1 a2 => hp a a1 (by omega))
    | m + 1, hi =>
      refine zgo ck_M_choice 300 10 _ _ _ _ rfl (sg_M_choice_10 ?_)
      try simp (disch := omega) only [zup_e, zup_ak, zup_j, Int.zero_add, Int.reduceAdd, mz78, mz79, mz80, mz81, mz82, mz83, mz84, mz85, mz86, mz87, mz88, mz89, mz90, mz91, mz92, mz93, mz94, mz95, mz96, mz97, mz98, mz99, mz100, mz101, mz102, mz103, mz104, mz105, mz106, mz107, mz108, mz109, mz110, mz111, mz112, mz113]
      refine ⟨fun q1 => ?_, fun q2 => ⟨by first | decide | omega | contradiction | exact absurd trivial (by assumption), by first | decide | omega | contradiction | exact absurd trivial (by assumption), ⟨by first | decide | omega | contradiction | exact absurd trivial (by assumption), by first | decide | omega | contradiction | exact absurd trivial (by assumption)⟩, by first | decide | omega | contradiction | exact absurd trivial (by assumption), ⟨by first | decide | omega | contradiction | exact absurd trivial (by assumption), by first | decide | omega | contradiction | exact absurd trivial (by assumption)⟩, ?_⟩⟩
      try (any_goals (exfalso; first | omega | exact absurd trivial (by assumption)))
      refine chm_10 K m (i + 1) (by omega) (fun b q => (zup_a q).trans (hF b q)) (fun a a1 a2 => ?_)
      by_cases e : a = i
      · rw [e, zup_s]
      · rw [zup_j e]
        exact hp a a1 (by omega)
theorem QM_1 {v' : zH} {x : Int} (hx : ¬ (77 ≤ x ∧ x ≤ 85) ∧ ¬ (93 ≤ x ∧ x ≤ 97)) (h : ∀ b : Int, b ≠ x → v' b = v b) (k : QM v W c S) : QM v' W c S := ⟨MQc_1 hx h k.1, by rw [h 77 (by omega)]; exact k.2.1, k.2.2⟩
theorem m_ln (hQ : QM v W c S) (K : ∀ v' : zH, Fz v v' → QM v' W c S → NTp v' W (sNi W (sSn S) (kR S) c) → Q 0 v') : zC l G 1 (d + 8) h_M_layNight [(2, 77)] v 115 Q := by
  have hh := hQ.2.2
  refine c_M_layNight hQ.1 (by omega) (fun v1 f1 f2 f3 f4 f5 f6 f7 => K v1 f1 ⟨f6, ?_, hh⟩ f7)
  rw [f2 39 (by omega) (by omega)]
  exact hQ.2.1
theorem c_M_choice {z : Int} (hQ : QM v W c S) (K : ∀ v' : zH, Fz v v' → QM v' W c S → Q (aChoice W S c z) v') : zC l G 1 (d + 9) h_M_choice [(2, 77), (0, z)] v 115 Q := by
  obtain ⟨hW, hM, -⟩ := id hQ.1
  have hZ := hW.2.2.2.2.2.2.2.2.1
  unfold aChoice at K
  refine zC_at ok_M_choice ck_M_choice rfl rfl (sg_M_choice_0 ?_)
  try simp (disch := omega) only [zup_e, zup_ak, zup_j, Int.zero_add, Int.reduceAdd, mz78, mz79, mz80, mz81, mz82, mz83, mz84, mz85, mz86, mz87, mz88, mz89, mz90, mz91, mz92, mz93, mz94, mz95, mz96, mz97, mz98, mz99, mz100, mz101, mz102, mz103, mz104, mz105, mz106, mz107, mz108, mz109, mz110, mz111, mz112, mz113]
  refine ⟨by first | decide | omega | contradiction | exact absurd trivial (by assumption), ?_⟩
  try (any_goals (exfalso; first | omega | exact absurd trivial (by assumption)))
  refine c_M_isSleeper hW hM ?_
  by_cases hz : 0 ≤ z ∧ z < wZ W
  rotate_left
  · rw [if_neg hz]
    rw [if_neg hz] at K
    refine ⟨fun q1 => ⟨by first | decide | omega | contradiction | exact absurd trivial (by assumption), ?_⟩, fun q2 => ?_⟩
    try (any_goals (exfalso; first | omega | exact absurd trivial (by assumption)))
    exact K v Fz_rf hQ
  rw [if_pos hz]
  rw [if_pos hz] at K
  obtain ⟨n, rfl⟩ : ∃ n : Nat, z = n := ⟨z.toNat, by omega⟩
  rw [Int.toNat_natCast] at K
  refine ⟨fun q1 => ⟨by first | decide | omega | contradiction | exact absurd trivial (by assumption), ?_⟩, fun q2 => ?_⟩
  try (any_goals (exfalso; first | omega | exact absurd trivial (by assumption)))
  refine m_ln hQ (fun v1 f1 f2 f3 => ?_)
  refine chm_10 (d := d + 6) (v0 := v1) (fun v2 g1 g2 => ?_) 36 0 (by omega) (fun _ _ => rfl) (fun a a1 a2 => by omega)
  refine chm_24 (d := d + 6) (v0 := v1) hW f2.1.2.1 (by omega) f3 (fun v3 y1 => K v3 (Fz_tr f1 (Fz_1 (x := 104) (by omega) y1)) (QM_1 (x := 104) (by omega) y1 f2)) (n + 1) 0 (by omega) g1 (fun a ha => ?_)
  have h36 := is36 hW ha
  rw [g2 a h36.1 h36.2.1]
  rfl
-- the most that sleep warm
theorem mom_16 {k : Int} {f : Int → Int} {v0 : zH} {QX : Nat → zH → Prop} (hW : Wok W) (hM : MW v0 W) (hf : NTp v0 W f) (K : ∀ v' : zH, (∀ b : Int, b ≠ 104 → v' b = v0 b) → Q (if k = 0 then sPc (sMst W f (2 ^ (wZ W).toNat)) else sMst W f (2 ^ (wZ W).toNat)) v') :
    ∀ (m i : Nat) {v : zH}, i + m = 2 ^ (wZ W).toNat → 1 ≤ i → (∀ b : Int, b ≠ 104 → v b = v0 b) → zJ l G 1 (d + 4) h_M_most k_M_most 115 Q QX 16 [(2, 77), (0, k), (0, sMst W f i), (0, (i : Int))] [] v 115
  | m, i, v, hi, h1, hF => by
    have hZ := hW.2.2.2.2.2.2.2.2.1
    have p5 := pow5 (n := (wZ W).toNat) (by omega)
    have hMv := mw_104 hM hF
    have hfv : NTp v W f := fun a ha => by rw [hF 103 (by omega)]; exact hf a ha
    have eZ := hMv.2.2.2.2.1
    have ez : zshl 1 (wZ W) = ((2 ^ (wZ W).toNat : Nat) : Int) := by
      have := zshl1 (k := (wZ W).toNat) (by omega)
      rw [← this]
      congr 1
      omega
    have mb := mst_b (W := W) (f := f) i
    match m, hi with
    | 0, hi =>
      have e : i = 2 ^ (wZ W).toNat := by omega
      rw [← e] at K ez
      by_cases hk : k = 0
      · have k0 := K v hF
        rw [if_pos hk] at k0
        refine zgo ck_M_most 300 16 _ _ _ _ rfl (sg_M_most_16 ?_)
        try simp (disch := omega) only [zup_e, zup_ak, zup_j, Int.zero_add, Int.reduceAdd, mz78, mz79, mz80, mz81, mz82, mz83, mz84, mz85, mz86, mz87, mz88, mz89, mz90, mz91, mz92, mz93, mz94, mz95, mz96, mz97, mz98, mz99, mz100, mz101, mz102, mz103, mz104, mz105, mz106, mz107, mz108, mz109, mz110, mz111, mz112, mz113, eZ, ez]
        refine ⟨by first | decide | omega | contradiction | exact absurd trivial (by assumption), ⟨fun q1 => ⟨fun q2 => ?_, fun q3 => ?_⟩, fun q4 => ?_⟩⟩
        try (any_goals (exfalso; first | omega | exact absurd trivial (by assumption)))
        refine c_pc (by omega) ?_
        exact k0
      · have k0 := K v hF
        rw [if_neg hk] at k0
        refine zgo ck_M_most 300 16 _ _ _ _ rfl (sg_M_most_16 ?_)
        try simp (disch := omega) only [zup_e, zup_ak, zup_j, Int.zero_add, Int.reduceAdd, mz78, mz79, mz80, mz81, mz82, mz83, mz84, mz85, mz86, mz87, mz88, mz89, mz90, mz91, mz92, mz93, mz94, mz95, mz96, mz97, mz98, mz99, mz100, mz101, mz102, mz103, mz104, mz105, mz106, mz107, mz108, mz109, mz110, mz111, mz112, mz113, eZ, ez]
        refine ⟨by first | decide | omega | contradiction | exact absurd trivial (by assumption), ⟨fun q1 => ⟨fun q2 => ?_, fun q3 => ?_⟩, fun q4 => ?_⟩⟩
        try (any_goals (exfalso; first | omega | exact absurd trivial (by assumption)))
        exact k0
    | m + 1, hi =>
      have g := fun {v : zH} => mom_16 (v := v) (QX := QX) hW hM hf K m (i + 1) (by omega) (by omega)
      have es : sMst W f (i + 1) = if sPc (sMst W f i) ≤ sPc i ∧ sAll W f i = true then (i : Int) else sMst W f i := rfl
      rw [es] at g
      have hm0 := mb.2.2 (by omega)
      generalize sMst W f i = B at g mb hm0 ⊢
      refine zgo ck_M_most 300 16 _ _ _ _ rfl (sg_M_most_16 ?_)
      try simp (disch := omega) only [zup_e, zup_ak, zup_j, Int.zero_add, Int.reduceAdd, mz78, mz79, mz80, mz81, mz82, mz83, mz84, mz85, mz86, mz87, mz88, mz89, mz90, mz91, mz92, mz93, mz94, mz95, mz96, mz97, mz98, mz99, mz100, mz101, mz102, mz103, mz104, mz105, mz106, mz107, mz108, mz109, mz110, mz111, mz112, mz113, eZ, ez]
      refine ⟨by first | decide | omega | contradiction | exact absurd trivial (by assumption), ⟨fun q1 => ⟨fun q2 => ?_, fun q3 => ?_⟩, fun q4 => ?_⟩⟩
      try (any_goals (exfalso; first | omega | exact absurd trivial (by assumption)))
      refine c_pc (by omega) ?_
      refine c_pc (by omega) ?_
      by_cases hp : sPc B ≤ sPc i
      rotate_left
      · rw [if_neg (fun q => hp q.1)] at g
        have k0 := g hF
        refine ⟨fun q1 => ⟨⟨by first | decide | omega | contradiction | exact absurd trivial (by assumption), by first | decide | omega | contradiction | exact absurd trivial (by assumption)⟩, ?_⟩, fun q2 => ⟨by first | decide | omega | contradiction | exact absurd trivial (by assumption), ?_⟩⟩
        try (any_goals (exfalso; first | omega | exact absurd trivial (by assumption)))
        exact k0
      refine ⟨fun q1 => ⟨⟨by first | decide | omega | contradiction | exact absurd trivial (by assumption), by first | decide | omega | contradiction | exact absurd trivial (by assumption)⟩, ?_⟩, fun q2 => ⟨by first | decide | omega | contradiction | exact absurd trivial (by assumption), ?_⟩⟩
      try (any_goals (exfalso; first | omega | exact absurd trivial (by assumption)))
      refine c_M_canSleep hW hMv hfv (by omega) (fun v1 f1 => ?_)
      have k0 := g (v := v1) (fun b q => (f1 b q).trans (hF b q))
      by_cases hs : sAll W f i = true
      · rw [if_pos ⟨hp, hs⟩] at k0
        rw [if_pos hs]
        refine ⟨fun q1 => ⟨⟨by first | decide | omega | contradiction | exact absurd trivial (by assumption), by first | decide | omega | contradiction | exact absurd trivial (by assumption)⟩, ?_⟩, fun q2 => ⟨⟨by first | decide | omega | contradiction | exact absurd trivial (by assumption), by first | decide | omega | contradiction | exact absurd trivial (by assumption)⟩, ?_⟩⟩
        try (any_goals (exfalso; first | omega | exact absurd trivial (by assumption)))
        exact k0
      · rw [if_neg (fun q => hs q.2)] at k0
        rw [if_neg hs]
        refine ⟨fun q1 => ⟨⟨by first | decide | omega | contradiction | exact absurd trivial (by assumption), by first | decide | omega | contradiction | exact absurd trivial (by assumption)⟩, ?_⟩, fun q2 => ⟨⟨by first | decide | omega | contradiction | exact absurd trivial (by assumption), by first | decide | omega | contradiction | exact absurd trivial (by assumption)⟩, ?_⟩⟩
        try (any_goals (exfalso; first | omega | exact absurd trivial (by assumption)))
        exact k0
theorem c_M_most {k : Int} (hQ : QM v W c S) (K : ∀ v' : zH, Fz v v' → QM v' W c S → Q (aMost W S c k) v') : zC l G 1 (d + 9) h_M_most [(2, 77), (0, k)] v 115 Q := by
  obtain ⟨hW, hM, -⟩ := id hQ.1
  have hZ := hW.2.2.2.2.2.2.2.2.1
  have hR4 := hW.1
  have p5 := pow5 (n := (wZ W).toNat) (by omega)
  unfold aMost at K
  refine zC_at ok_M_most ck_M_most rfl rfl (sg_M_most_0 ?_)
  try simp (disch := omega) only [zup_e, zup_ak, zup_j, Int.zero_add, Int.reduceAdd, mz78, mz79, mz80, mz81, mz82, mz83, mz84, mz85, mz86, mz87, mz88, mz89, mz90, mz91, mz92, mz93, mz94, mz95, mz96, mz97, mz98, mz99, mz100, mz101, mz102, mz103, mz104, mz105, mz106, mz107, mz108, mz109, mz110, mz111, mz112, mz113, hM.2.1]
  refine ⟨by first | decide | omega | contradiction | exact absurd trivial (by assumption), ⟨fun q1 => ?_, fun q2 => ?_⟩⟩
  try (any_goals (exfalso; first | omega | exact absurd trivial (by assumption)))
  · rw [if_neg (fun q => by omega)] at K
    exact K v Fz_rf hQ
  refine c_M_in ?_
  by_cases hk : 0 ≤ k ∧ k ≤ 1
  rotate_left
  · rw [if_neg hk]
    rw [if_neg (fun q => hk q.2)] at K
    refine ⟨fun q1 => ⟨by first | decide | omega | contradiction | exact absurd trivial (by assumption), ?_⟩, fun q2 => ?_⟩
    try (any_goals (exfalso; first | omega | exact absurd trivial (by assumption)))
    exact K v Fz_rf hQ
  rw [if_pos hk]
  rw [if_pos ⟨by omega, hk⟩] at K
  refine ⟨fun q1 => ⟨by first | decide | omega | contradiction | exact absurd trivial (by assumption), ?_⟩, fun q2 => ?_⟩
  try (any_goals (exfalso; first | omega | exact absurd trivial (by assumption)))
  refine m_ln hQ (fun v1 f1 f2 f3 => ?_)
  have g := mom_16 (l := l) (G := G) (d := d + 5) (Q := Q) (k := k) (v0 := v1) (v := v1) (QX := fun _ _ => False) hW f2.1.2.1 f3 (fun v3 y1 => K v3 (Fz_tr f1 (Fz_1 (x := 104) (by omega) y1)) (QM_1 (x := 104) (by omega) y1 f2)) (2 ^ (wZ W).toNat - 1) 1 (by omega) (by omega) (fun _ _ => rfl)
  rw [mst_1] at g
  exact g
-- frost
theorem fzm_8 {n : Int} {v0 : zH} {QX : Nat → zH → Prop} (K : ∀ v' : zH, (∀ b : Int, b ≠ 104 → v' b = v0 b) → (∀ a : Int, 0 ≤ a → a < 36 → v' 104 a = 0) → zC l G 1 (d + 6) h_M_putAside [(2, 77)] v' 115 (fun _ v1 => zJ l G 1 (d + 7) h_M_frost k_M_frost 115 Q QX 22 [(2, 77), (0, n), (0, 0), (3, 0)] [] v1 115)) :
    ∀ (m i : Nat) {v : zH}, i + m = 36 → (∀ b : Int, b ≠ 104 → v b = v0 b) → (∀ a : Int, 0 ≤ a → a < i → v 104 a = 0) → zJ l G 1 (d + 7) h_M_frost k_M_frost 115 Q QX 8 [(2, 77), (0, n), (0, (i : Int)), (3, 0)] [] v 115
  | m, i, v, hi, hF, hp => by
    match m, hi with
    | 0, hi =>
      refine zgo ck_M_frost 300 8 _ _ _ _ rfl (sg_M_frost_8 ?_)
      try simp (disch := omega) only [zup_e, zup_ak, zup_j, Int.zero_add, Int.reduceAdd, mz78, mz79, mz80, mz81, mz82, mz83, mz84, mz85, mz86, mz87, mz88, mz89, mz90, mz91, mz92, mz93, mz94, mz95, mz96, mz97, mz98, mz99, mz100, mz101, mz102, mz103, mz104, mz105, mz106, mz107, mz108, mz109, mz110, mz111, mz112, mz113]
      refine ⟨fun q1 => ⟨by first | decide | omega | contradiction | exact absurd trivial (by assumption), ?_⟩, fun q2 => ⟨by first | decide | omega | contradiction | exact absurd trivial (by assumption), by first | decide | omega | contradiction | exact absurd trivial (by assumption), ⟨by first | decide | omega | contradiction | exact absurd trivial (by assumption), by first | decide | omega | contradiction | exact absurd trivial (by assumption)⟩, by first | decide | omega | contradiction | exact absurd trivial (by assumption), ⟨by first | decide | omega | contradiction | exact absurd trivial (by assumption), by first | decide | omega | contradiction | exact absurd trivial (by assumption)⟩, ?_⟩⟩
      try (any_goals (exfalso; first | omega | exact absurd trivial (by assumption)))
      exact K v hF (fun a a1 a2 => hp a a1 (by omega))
    | m + 1, hi =>
      refine zgo ck_M_frost 300 8 _ _ _ _ rfl (sg_M_frost_8 ?_)
      try simp (disch := omega) only [zup_e, zup_ak, zup_j, Int.zero_add, Int.reduceAdd, mz78, mz79, mz80, mz81, mz82, mz83, mz84, mz85, mz86, mz87, mz88, mz89, mz90, mz91, mz92, mz93, mz94, mz95, mz96, mz97, mz98, mz99, mz100, mz101, mz102, mz103, mz104, mz105, mz106, mz107, mz108, mz109, mz110, mz111, mz112, mz113]
      refine ⟨fun q1 => ⟨by first | decide | omega | contradiction | exact absurd trivial (by assumption), ?_⟩, fun q2 => ⟨by first | decide | omega | contradiction | exact absurd trivial (by assumption), by first | decide | omega | contradiction | exact absurd trivial (by assumption), ⟨by first | decide | omega | contradiction | exact absurd trivial (by assumption), by first | decide | omega | contradiction | exact absurd trivial (by assumption)⟩, by first | decide | omega | contradiction | exact absurd trivial (by assumption), ⟨by first | decide | omega | contradiction | exact absurd trivial (by assumption), by first | decide | omega | contradiction | exact absurd trivial (by assumption)⟩, ?_⟩⟩
      try (any_goals (exfalso; first | omega | exact absurd trivial (by assumption)))
      refine fzm_8 K m (i + 1) (by omega) (fun b q => (zup_a q).trans (hF b q)) (fun a a1 a2 => ?_)
      by_cases e : a = i
      · rw [e, zup_s]
      · rw [zup_j e]
        exact hp a a1 (by omega)
theorem fzm_29 {n k : Int} {g g2 : Int → Bool} {v0 : zH} {QX : Nat → zH → Prop} (hW : Wok W) (hM : MW v0 W) (hk : 0 ≤ k ∧ k ≤ 1000) (hg : ∀ a : Int, isc (wR W) (wC W) a = true → g2 (ixn (wC W) a) = (g (ixn (wC W) a) || decide (v0 97 a = 0)))
    (K : ∀ v' : zH, (∀ b : Int, b ≠ 104 → v' b = v0 b) → (∀ a : Int, 0 ≤ a → a < 36 → v' 104 a = if isc (wR W) (wC W) a = true ∧ g2 (ixn (wC W) a) = true then 1 else 0) → zJ l G 1 (d + 7) h_M_frost k_M_frost 115 Q QX 22 [(2, 77), (0, n), (0, k + 1), (3, 0)] [] v' 115) :
    ∀ (m i : Nat) {v : zH}, i + m = 36 → (∀ b : Int, b ≠ 104 → v b = v0 b) → (∀ a : Int, 0 ≤ a → a < i → v 104 a = if isc (wR W) (wC W) a = true ∧ g2 (ixn (wC W) a) = true then 1 else 0) → (∀ a : Int, i ≤ a → a < 36 → v 104 a = if isc (wR W) (wC W) a = true ∧ g (ixn (wC W) a) = true then 1 else 0) →
    zJ l G 1 (d + 7) h_M_frost k_M_frost 115 Q QX 29 [(2, 77), (0, n), (0, k), (0, (i : Int))] [] v 115
  | m, i, v, hi, hF, hp, hq => by
    match m, hi with
    | 0, hi =>
      refine zgo ck_M_frost 300 29 _ _ _ _ rfl (sg_M_frost_29 ?_)
      try simp (disch := omega) only [zup_e, zup_ak, zup_j, Int.zero_add, Int.reduceAdd, mz78, mz79, mz80, mz81, mz82, mz83, mz84, mz85, mz86, mz87, mz88, mz89, mz90, mz91, mz92, mz93, mz94, mz95, mz96, mz97, mz98, mz99, mz100, mz101, mz102, mz103, mz104, mz105, mz106, mz107, mz108, mz109, mz110, mz111, mz112, mz113]
      refine ⟨fun q1 => ⟨⟨by first | decide | omega | contradiction | exact absurd trivial (by assumption), by first | decide | omega | contradiction | exact absurd trivial (by assumption)⟩, ?_⟩, fun q2 => ⟨by first | decide | omega | contradiction | exact absurd trivial (by assumption), by first | decide | omega | contradiction | exact absurd trivial (by assumption), by first | decide | omega | contradiction | exact absurd trivial (by assumption), ⟨by first | decide | omega | contradiction | exact absurd trivial (by assumption), by first | decide | omega | contradiction | exact absurd trivial (by assumption)⟩, ⟨fun q3 => ⟨by first | decide | omega | contradiction | exact absurd trivial (by assumption), ⟨by first | decide | omega | contradiction | exact absurd trivial (by assumption), by first | decide | omega | contradiction | exact absurd trivial (by assumption)⟩, by first | decide | omega | contradiction | exact absurd trivial (by assumption), ⟨by first | decide | omega | contradiction | exact absurd trivial (by assumption), by first | decide | omega | contradiction | exact absurd trivial (by assumption)⟩, ?_⟩, fun q4 => ⟨by first | decide | omega | contradiction | exact absurd trivial (by assumption), ?_⟩⟩⟩⟩
      try (any_goals (exfalso; first | omega | exact absurd trivial (by assumption)))
      exact K v hF (fun a a1 a2 => hp a a1 (by omega))
    | m + 1, hi =>
      have hMv := mw_104 hM hF
      have go : ∀ y : Int, y = (if isc (wR W) (wC W) i = true ∧ g2 (ixn (wC W) i) = true then 1 else 0) → zJ l G 1 (d + 7) h_M_frost k_M_frost 115 Q QX 29 [(2, 77), (0, n), (0, k), (0, (i : Int) + 1)] [] (zupd v 104 i y) 115 := by
        intro y hy
        refine fzm_29 hW hM hk hg K m (i + 1) (by omega) (fun b q => (zup_a q).trans (hF b q)) (fun a a1 a2 => ?_) (fun a a1 a2 => ?_)
        · by_cases e : a = i
          · rw [e, zup_s]
            exact hy
          · rw [zup_j e]
            exact hp a a1 (by omega)
        · rw [zup_j (by omega)]
          exact hq a (by omega) a2
      have ei := hq i (by omega) (by omega)
      have e97 : v 97 i = v0 97 i := by rw [hF 97 (by omega)]
      by_cases ha : isc (wR W) (wC W) i = true
      rotate_left
      · rw [if_neg (fun q => ha q.1)] at ei
        have k0 := go 0 (by rw [if_neg (fun q => ha q.1)])
        refine zgo ck_M_frost 300 29 _ _ _ _ rfl (sg_M_frost_29 ?_)
        try simp (disch := omega) only [zup_e, zup_ak, zup_j, Int.zero_add, Int.reduceAdd, mz78, mz79, mz80, mz81, mz82, mz83, mz84, mz85, mz86, mz87, mz88, mz89, mz90, mz91, mz92, mz93, mz94, mz95, mz96, mz97, mz98, mz99, mz100, mz101, mz102, mz103, mz104, mz105, mz106, mz107, mz108, mz109, mz110, mz111, mz112, mz113]
        refine ⟨fun q1 => ⟨⟨by first | decide | omega | contradiction | exact absurd trivial (by assumption), by first | decide | omega | contradiction | exact absurd trivial (by assumption)⟩, ?_⟩, fun q2 => ⟨by first | decide | omega | contradiction | exact absurd trivial (by assumption), by first | decide | omega | contradiction | exact absurd trivial (by assumption), by first | decide | omega | contradiction | exact absurd trivial (by assumption), ⟨by first | decide | omega | contradiction | exact absurd trivial (by assumption), by first | decide | omega | contradiction | exact absurd trivial (by assumption)⟩, ⟨fun q3 => ⟨by first | decide | omega | contradiction | exact absurd trivial (by assumption), ⟨by first | decide | omega | contradiction | exact absurd trivial (by assumption), by first | decide | omega | contradiction | exact absurd trivial (by assumption)⟩, by first | decide | omega | contradiction | exact absurd trivial (by assumption), ⟨by first | decide | omega | contradiction | exact absurd trivial (by assumption), by first | decide | omega | contradiction | exact absurd trivial (by assumption)⟩, ?_⟩, fun q4 => ⟨by first | decide | omega | contradiction | exact absurd trivial (by assumption), ?_⟩⟩⟩⟩
        try (any_goals (exfalso; first | omega | exact absurd trivial (by assumption)))
        refine m_cell hMv ?_
        rw [if_neg ha]
        refine ⟨fun q1 => ⟨by first | decide | omega | contradiction | exact absurd trivial (by assumption), ⟨by first | decide | omega | contradiction | exact absurd trivial (by assumption), by first | decide | omega | contradiction | exact absurd trivial (by assumption)⟩, by first | decide | omega | contradiction | exact absurd trivial (by assumption), ⟨by first | decide | omega | contradiction | exact absurd trivial (by assumption), by first | decide | omega | contradiction | exact absurd trivial (by assumption)⟩, ?_⟩, fun q2 => ⟨by first | decide | omega | contradiction | exact absurd trivial (by assumption), by first | decide | omega | contradiction | exact absurd trivial (by assumption), ⟨by first | decide | omega | contradiction | exact absurd trivial (by assumption), by first | decide | omega | contradiction | exact absurd trivial (by assumption)⟩, ⟨fun q3 => ⟨by first | decide | omega | contradiction | exact absurd trivial (by assumption), ⟨by first | decide | omega | contradiction | exact absurd trivial (by assumption), by first | decide | omega | contradiction | exact absurd trivial (by assumption)⟩, by first | decide | omega | contradiction | exact absurd trivial (by assumption), ⟨by first | decide | omega | contradiction | exact absurd trivial (by assumption), by first | decide | omega | contradiction | exact absurd trivial (by assumption)⟩, ?_⟩, fun q4 => ⟨by first | decide | omega | contradiction | exact absurd trivial (by assumption), ⟨by first | decide | omega | contradiction | exact absurd trivial (by assumption), by first | decide | omega | contradiction | exact absurd trivial (by assumption)⟩, by first | decide | omega | contradiction | exact absurd trivial (by assumption), ⟨by first | decide | omega | contradiction | exact absurd trivial (by assumption), by first | decide | omega | contradiction | exact absurd trivial (by assumption)⟩, ?_⟩⟩⟩⟩
        try (any_goals (exfalso; first | omega | exact absurd trivial (by assumption)))
        exact k0
      have hgi := hg i ha
      cases hgg : g (ixn (wC W) i) with
      | true =>
        rw [if_pos ⟨ha, hgg⟩] at ei
        have k0 := go 1 (by rw [if_pos ⟨ha, by rw [hgi, hgg]; rfl⟩])
        refine zgo ck_M_frost 300 29 _ _ _ _ rfl (sg_M_frost_29 ?_)
        try simp (disch := omega) only [zup_e, zup_ak, zup_j, Int.zero_add, Int.reduceAdd, mz78, mz79, mz80, mz81, mz82, mz83, mz84, mz85, mz86, mz87, mz88, mz89, mz90, mz91, mz92, mz93, mz94, mz95, mz96, mz97, mz98, mz99, mz100, mz101, mz102, mz103, mz104, mz105, mz106, mz107, mz108, mz109, mz110, mz111, mz112, mz113]
        refine ⟨fun q1 => ⟨⟨by first | decide | omega | contradiction | exact absurd trivial (by assumption), by first | decide | omega | contradiction | exact absurd trivial (by assumption)⟩, ?_⟩, fun q2 => ⟨by first | decide | omega | contradiction | exact absurd trivial (by assumption), by first | decide | omega | contradiction | exact absurd trivial (by assumption), by first | decide | omega | contradiction | exact absurd trivial (by assumption), ⟨by first | decide | omega | contradiction | exact absurd trivial (by assumption), by first | decide | omega | contradiction | exact absurd trivial (by assumption)⟩, ⟨fun q3 => ⟨by first | decide | omega | contradiction | exact absurd trivial (by assumption), ⟨by first | decide | omega | contradiction | exact absurd trivial (by assumption), by first | decide | omega | contradiction | exact absurd trivial (by assumption)⟩, by first | decide | omega | contradiction | exact absurd trivial (by assumption), ⟨by first | decide | omega | contradiction | exact absurd trivial (by assumption), by first | decide | omega | contradiction | exact absurd trivial (by assumption)⟩, ?_⟩, fun q4 => ⟨by first | decide | omega | contradiction | exact absurd trivial (by assumption), ?_⟩⟩⟩⟩
        try (any_goals (exfalso; first | omega | exact absurd trivial (by assumption)))
        exact k0
      | false =>
        rw [if_neg (fun q => by rw [hgg] at q; cases q.2)] at ei
        rw [hgg, Bool.false_or] at hgi
        refine zgo ck_M_frost 300 29 _ _ _ _ rfl (sg_M_frost_29 ?_)
        try simp (disch := omega) only [zup_e, zup_ak, zup_j, Int.zero_add, Int.reduceAdd, mz78, mz79, mz80, mz81, mz82, mz83, mz84, mz85, mz86, mz87, mz88, mz89, mz90, mz91, mz92, mz93, mz94, mz95, mz96, mz97, mz98, mz99, mz100, mz101, mz102, mz103, mz104, mz105, mz106, mz107, mz108, mz109, mz110, mz111, mz112, mz113]
        refine ⟨fun q1 => ⟨⟨by first | decide | omega | contradiction | exact absurd trivial (by assumption), by first | decide | omega | contradiction | exact absurd trivial (by assumption)⟩, ?_⟩, fun q2 => ⟨by first | decide | omega | contradiction | exact absurd trivial (by assumption), by first | decide | omega | contradiction | exact absurd trivial (by assumption), by first | decide | omega | contradiction | exact absurd trivial (by assumption), ⟨by first | decide | omega | contradiction | exact absurd trivial (by assumption), by first | decide | omega | contradiction | exact absurd trivial (by assumption)⟩, ⟨fun q3 => ⟨by first | decide | omega | contradiction | exact absurd trivial (by assumption), ⟨by first | decide | omega | contradiction | exact absurd trivial (by assumption), by first | decide | omega | contradiction | exact absurd trivial (by assumption)⟩, by first | decide | omega | contradiction | exact absurd trivial (by assumption), ⟨by first | decide | omega | contradiction | exact absurd trivial (by assumption), by first | decide | omega | contradiction | exact absurd trivial (by assumption)⟩, ?_⟩, fun q4 => ⟨by first | decide | omega | contradiction | exact absurd trivial (by assumption), ?_⟩⟩⟩⟩
        try (any_goals (exfalso; first | omega | exact absurd trivial (by assumption)))
        refine m_cell hMv ?_
        rw [if_pos ha]
        by_cases h0 : v0 97 i = 0
        · have k0 := go 1 (by rw [if_pos ⟨ha, by rw [hgi, decide_eq_true h0]⟩])
          refine ⟨fun q1 => ⟨by first | decide | omega | contradiction | exact absurd trivial (by assumption), ⟨by first | decide | omega | contradiction | exact absurd trivial (by assumption), by first | decide | omega | contradiction | exact absurd trivial (by assumption)⟩, by first | decide | omega | contradiction | exact absurd trivial (by assumption), ⟨by first | decide | omega | contradiction | exact absurd trivial (by assumption), by first | decide | omega | contradiction | exact absurd trivial (by assumption)⟩, ?_⟩, fun q2 => ⟨by first | decide | omega | contradiction | exact absurd trivial (by assumption), by first | decide | omega | contradiction | exact absurd trivial (by assumption), ⟨by first | decide | omega | contradiction | exact absurd trivial (by assumption), by first | decide | omega | contradiction | exact absurd trivial (by assumption)⟩, ⟨fun q3 => ⟨by first | decide | omega | contradiction | exact absurd trivial (by assumption), ⟨by first | decide | omega | contradiction | exact absurd trivial (by assumption), by first | decide | omega | contradiction | exact absurd trivial (by assumption)⟩, by first | decide | omega | contradiction | exact absurd trivial (by assumption), ⟨by first | decide | omega | contradiction | exact absurd trivial (by assumption), by first | decide | omega | contradiction | exact absurd trivial (by assumption)⟩, ?_⟩, fun q4 => ⟨by first | decide | omega | contradiction | exact absurd trivial (by assumption), ⟨by first | decide | omega | contradiction | exact absurd trivial (by assumption), by first | decide | omega | contradiction | exact absurd trivial (by assumption)⟩, by first | decide | omega | contradiction | exact absurd trivial (by assumption), ⟨by first | decide | omega | contradiction | exact absurd trivial (by assumption), by first | decide | omega | contradiction | exact absurd trivial (by assumption)⟩, ?_⟩⟩⟩⟩
          try (any_goals (exfalso; first | omega | exact absurd trivial (by assumption)))
          exact k0
        · have k0 := go 0 (by rw [if_neg (fun q => by rw [hgi, decide_eq_false h0] at q; cases q.2)])
          refine ⟨fun q1 => ⟨by first | decide | omega | contradiction | exact absurd trivial (by assumption), ⟨by first | decide | omega | contradiction | exact absurd trivial (by assumption), by first | decide | omega | contradiction | exact absurd trivial (by assumption)⟩, by first | decide | omega | contradiction | exact absurd trivial (by assumption), ⟨by first | decide | omega | contradiction | exact absurd trivial (by assumption), by first | decide | omega | contradiction | exact absurd trivial (by assumption)⟩, ?_⟩, fun q2 => ⟨by first | decide | omega | contradiction | exact absurd trivial (by assumption), by first | decide | omega | contradiction | exact absurd trivial (by assumption), ⟨by first | decide | omega | contradiction | exact absurd trivial (by assumption), by first | decide | omega | contradiction | exact absurd trivial (by assumption)⟩, ⟨fun q3 => ⟨by first | decide | omega | contradiction | exact absurd trivial (by assumption), ⟨by first | decide | omega | contradiction | exact absurd trivial (by assumption), by first | decide | omega | contradiction | exact absurd trivial (by assumption)⟩, by first | decide | omega | contradiction | exact absurd trivial (by assumption), ⟨by first | decide | omega | contradiction | exact absurd trivial (by assumption), by first | decide | omega | contradiction | exact absurd trivial (by assumption)⟩, ?_⟩, fun q4 => ⟨by first | decide | omega | contradiction | exact absurd trivial (by assumption), ⟨by first | decide | omega | contradiction | exact absurd trivial (by assumption), by first | decide | omega | contradiction | exact absurd trivial (by assumption)⟩, by first | decide | omega | contradiction | exact absurd trivial (by assumption), ⟨by first | decide | omega | contradiction | exact absurd trivial (by assumption), by first | decide | omega | contradiction | exact absurd trivial (by assumption)⟩, ?_⟩⟩⟩⟩
          try (any_goals (exfalso; first | omega | exact absurd trivial (by assumption)))
          exact k0
theorem fzm_63 {g : Int → Bool} {QX : Nat → zH → Prop} (hW : Wok W) (hv : ∀ a : Int, 0 ≤ a → a < 36 → v 104 a = if isc (wR W) (wC W) a = true ∧ g (ixn (wC W) a) = true then 1 else 0) (K : Q (zsm (fun a => if g a = true then 1 else 0) (wN W).toNat) v) :
    ∀ (m i : Nat), i + m = 36 → zJ l G 1 (d + 7) h_M_frost k_M_frost 115 Q QX 63 [(2, 77), (3, 0), (0, zsm (fun o => if isc (wR W) (wC W) o = true then (if g (ixn (wC W) o) = true then 1 else 0) else 0) i), (0, (i : Int))] [] v 115
  | m, i, hi => by
    match m, hi with
    | 0, hi =>
      have e : i = 36 := by omega
      subst e
      rw [zsm_nm (g := fun a => if g a = true then 1 else 0) hW.1 hW.2.1, ← hW.2.2.1]
      refine zgo ck_M_frost 300 63 _ _ _ _ rfl (sg_M_frost_63 ?_)
      try simp (disch := omega) only [zup_e, zup_ak, zup_j, Int.zero_add, Int.reduceAdd, mz78, mz79, mz80, mz81, mz82, mz83, mz84, mz85, mz86, mz87, mz88, mz89, mz90, mz91, mz92, mz93, mz94, mz95, mz96, mz97, mz98, mz99, mz100, mz101, mz102, mz103, mz104, mz105, mz106, mz107, mz108, mz109, mz110, mz111, mz112, mz113]
      refine ⟨fun q1 => ?_, fun q2 => ⟨by first | decide | omega | contradiction | exact absurd trivial (by assumption), by first | decide | omega | contradiction | exact absurd trivial (by assumption), ⟨by first | decide | omega | contradiction | exact absurd trivial (by assumption), by first | decide | omega | contradiction | exact absurd trivial (by assumption)⟩, ⟨fun q3 => ⟨⟨by first | decide | omega | contradiction | exact absurd trivial (by assumption), by first | decide | omega | contradiction | exact absurd trivial (by assumption)⟩, ⟨by first | decide | omega | contradiction | exact absurd trivial (by assumption), by first | decide | omega | contradiction | exact absurd trivial (by assumption)⟩, ?_⟩, fun q4 => ⟨⟨by first | decide | omega | contradiction | exact absurd trivial (by assumption), by first | decide | omega | contradiction | exact absurd trivial (by assumption)⟩, ⟨by first | decide | omega | contradiction | exact absurd trivial (by assumption), by first | decide | omega | contradiction | exact absurd trivial (by assumption)⟩, ?_⟩⟩⟩⟩
      try (any_goals (exfalso; first | omega | exact absurd trivial (by assumption)))
      exact K
    | m + 1, hi =>
      have gg := fzm_63 (QX := QX) hW hv K m (i + 1) (by omega)
      have zb := zsm_b (f := fun o => if isc (wR W) (wC W) o = true then (if g (ixn (wC W) o) = true then 1 else 0) else 0) (k := 1) i (fun j _ _ => by
        show 0 ≤ (if isc (wR W) (wC W) j = true then (if g (ixn (wC W) j) = true then (1 : Int) else 0) else 0) ∧ (if isc (wR W) (wC W) j = true then (if g (ixn (wC W) j) = true then (1 : Int) else 0) else 0) ≤ 1
        split <;> (try split) <;> omega)
      have ei := hv i (by omega) (by omega)
      rw [zsm_s] at gg
      generalize zsm (fun o => if isc (wR W) (wC W) o = true then (if g (ixn (wC W) o) = true then 1 else 0) else 0) i = B at gg zb ⊢
      by_cases hc : isc (wR W) (wC W) i = true ∧ g (ixn (wC W) i) = true
      · rw [if_pos hc] at ei
        rw [if_pos hc.1, if_pos hc.2] at gg
        refine zgo ck_M_frost 300 63 _ _ _ _ rfl (sg_M_frost_63 ?_)
        try simp (disch := omega) only [zup_e, zup_ak, zup_j, Int.zero_add, Int.reduceAdd, mz78, mz79, mz80, mz81, mz82, mz83, mz84, mz85, mz86, mz87, mz88, mz89, mz90, mz91, mz92, mz93, mz94, mz95, mz96, mz97, mz98, mz99, mz100, mz101, mz102, mz103, mz104, mz105, mz106, mz107, mz108, mz109, mz110, mz111, mz112, mz113]
        refine ⟨fun q1 => ?_, fun q2 => ⟨by first | decide | omega | contradiction | exact absurd trivial (by assumption), by first | decide | omega | contradiction | exact absurd trivial (by assumption), ⟨by first | decide | omega | contradiction | exact absurd trivial (by assumption), by first | decide | omega | contradiction | exact absurd trivial (by assumption)⟩, ⟨fun q3 => ⟨⟨by first | decide | omega | contradiction | exact absurd trivial (by assumption), by first | decide | omega | contradiction | exact absurd trivial (by assumption)⟩, ⟨by first | decide | omega | contradiction | exact absurd trivial (by assumption), by first | decide | omega | contradiction | exact absurd trivial (by assumption)⟩, ?_⟩, fun q4 => ⟨⟨by first | decide | omega | contradiction | exact absurd trivial (by assumption), by first | decide | omega | contradiction | exact absurd trivial (by assumption)⟩, ⟨by first | decide | omega | contradiction | exact absurd trivial (by assumption), by first | decide | omega | contradiction | exact absurd trivial (by assumption)⟩, ?_⟩⟩⟩⟩
        try (any_goals (exfalso; first | omega | exact absurd trivial (by assumption)))
        exact gg
      · rw [if_neg hc] at ei
        have e0 : (if isc (wR W) (wC W) i = true then (if g (ixn (wC W) i) = true then (1 : Int) else 0) else 0) = 0 := by
          by_cases h1 : isc (wR W) (wC W) i = true
          · rw [if_pos h1, if_neg (fun q => hc ⟨h1, q⟩)]
          · rw [if_neg h1]
        rw [e0, Int.add_zero] at gg
        refine zgo ck_M_frost 300 63 _ _ _ _ rfl (sg_M_frost_63 ?_)
        try simp (disch := omega) only [zup_e, zup_ak, zup_j, Int.zero_add, Int.reduceAdd, mz78, mz79, mz80, mz81, mz82, mz83, mz84, mz85, mz86, mz87, mz88, mz89, mz90, mz91, mz92, mz93, mz94, mz95, mz96, mz97, mz98, mz99, mz100, mz101, mz102, mz103, mz104, mz105, mz106, mz107, mz108, mz109, mz110, mz111, mz112, mz113, Int.add_zero]
        refine ⟨fun q1 => ?_, fun q2 => ⟨by first | decide | omega | contradiction | exact absurd trivial (by assumption), by first | decide | omega | contradiction | exact absurd trivial (by assumption), ⟨by first | decide | omega | contradiction | exact absurd trivial (by assumption), by first | decide | omega | contradiction | exact absurd trivial (by assumption)⟩, ⟨fun q3 => ⟨⟨by first | decide | omega | contradiction | exact absurd trivial (by assumption), by first | decide | omega | contradiction | exact absurd trivial (by assumption)⟩, ⟨by first | decide | omega | contradiction | exact absurd trivial (by assumption), by first | decide | omega | contradiction | exact absurd trivial (by assumption)⟩, ?_⟩, fun q4 => ⟨⟨by first | decide | omega | contradiction | exact absurd trivial (by assumption), by first | decide | omega | contradiction | exact absurd trivial (by assumption)⟩, ⟨by first | decide | omega | contradiction | exact absurd trivial (by assumption), by first | decide | omega | contradiction | exact absurd trivial (by assumption)⟩, ?_⟩⟩⟩⟩
        try (any_goals (exfalso; first | omega | exact absurd trivial (by assumption)))
        exact gg
theorem fzm_22 {n : Nat} {v0 : zH} {QX : Nat → zH → Prop} (hQ : QM v0 W c S) (hn : n ≤ 72) (K : ∀ v' : zH, Fz v0 v' → QM v' W c S → Q (zsm (fun a => if sFrz W S c a n = true then 1 else 0) (wN W).toNat) v') :
    ∀ (m i : Nat) {v : zH}, i + m = n → MH v0 v W c S i → (∀ a : Int, 0 ≤ a → a < 36 → v 104 a = if isc (wR W) (wC W) a = true ∧ sFrz W S c (ixn (wC W) a) i = true then 1 else 0) → zJ l G 1 (d + 7) h_M_frost k_M_frost 115 Q QX 22 [(2, 77), (0, (n : Int)), (0, (i : Int)), (3, 0)] [] v 115
  | m, i, v, hi, hH, hp => by
    obtain ⟨hW, hM0, hc, -⟩ := id hQ.1
    have hh := hQ.2.2
    match m, hi with
    | 0, hi =>
      have e : i = n := by omega
      subst e
      refine zgo ck_M_frost 300 22 _ _ _ _ rfl (sg_M_frost_22 ?_)
      try simp (disch := omega) only [zup_e, zup_ak, zup_j, Int.zero_add, Int.reduceAdd, mz78, mz79, mz80, mz81, mz82, mz83, mz84, mz85, mz86, mz87, mz88, mz89, mz90, mz91, mz92, mz93, mz94, mz95, mz96, mz97, mz98, mz99, mz100, mz101, mz102, mz103, mz104, mz105, mz106, mz107, mz108, mz109, mz110, mz111, mz112, mz113]
      refine ⟨fun q1 => ⟨by first | decide | omega | contradiction | exact absurd trivial (by assumption), ?_⟩, fun q2 => ⟨by first | decide | omega | contradiction | exact absurd trivial (by assumption), ?_⟩⟩
      try (any_goals (exfalso; first | omega | exact absurd trivial (by assumption)))
      refine m_qtb hQ hH (fun v1 y1 y2 y3 => ?_)
      exact fzm_63 (g := fun a => sFrz W S c a i) hW (fun a a1 a2 => by rw [y3 104 (by omega) (by omega)]; exact hp a a1 a2) (K v1 y1 y2) 36 0 (by omega)
    | m + 1, hi =>
      refine zgo ck_M_frost 300 22 _ _ _ _ rfl (sg_M_frost_22 ?_)
      try simp (disch := omega) only [zup_e, zup_ak, zup_j, Int.zero_add, Int.reduceAdd, mz78, mz79, mz80, mz81, mz82, mz83, mz84, mz85, mz86, mz87, mz88, mz89, mz90, mz91, mz92, mz93, mz94, mz95, mz96, mz97, mz98, mz99, mz100, mz101, mz102, mz103, mz104, mz105, mz106, mz107, mz108, mz109, mz110, mz111, mz112, mz113]
      refine ⟨fun q1 => ⟨by first | decide | omega | contradiction | exact absurd trivial (by assumption), ?_⟩, fun q2 => ⟨by first | decide | omega | contradiction | exact absurd trivial (by assumption), ?_⟩⟩
      try (any_goals (exfalso; first | omega | exact absurd trivial (by assumption)))
      refine m_ps hH (by omega) (fun v1 f1 f2 f3 => ?_)
      refine fzm_29 (v0 := v1) (k := (i : Int)) (g := fun a => sFrz W S c a i) (g2 := fun a => sFrz W S c a (i + 1)) hW f1.2.1.2.1 (by omega) (fun a ha => ?_) (fun v2 y1 y2 => ?_) 36 0 (by omega) (fun _ _ => rfl) (fun a a1 a2 => by omega) (fun a a1 a2 => by rw [f3 104 (by omega)]; exact hp a (by omega) a2)
      · rw [(f1.2.1.2.2.2.1.2.1 a ha).1]
        rfl
      · exact fzm_22 hQ hn K m (i + 1) (by omega) (MH_1 (x := 104) (by omega) y1 f1) y2
theorem c_M_frost {n : Int} (hQ : QM v W c S) (K : ∀ v' : zH, Fz v v' → QM v' W c S → Q (aFrost W S c n) v') : zC l G 1 (d + 7) h_M_frost [(2, 77), (0, n)] v 115 Q := by
  obtain ⟨hW, hM, -⟩ := id hQ.1
  unfold aFrost at K
  refine zC_at ok_M_frost ck_M_frost rfl rfl (sg_M_frost_0 ?_)
  try simp (disch := omega) only [zup_e, zup_ak, zup_j, Int.zero_add, Int.reduceAdd, mz78, mz79, mz80, mz81, mz82, mz83, mz84, mz85, mz86, mz87, mz88, mz89, mz90, mz91, mz92, mz93, mz94, mz95, mz96, mz97, mz98, mz99, mz100, mz101, mz102, mz103, mz104, mz105, mz106, mz107, mz108, mz109, mz110, mz111, mz112, mz113]
  refine ⟨by first | decide | omega | contradiction | exact absurd trivial (by assumption), ?_⟩
  try (any_goals (exfalso; first | omega | exact absurd trivial (by assumption)))
  refine c_M_areHours hM ?_
  by_cases hn : 0 < wR W ∧ (1 ≤ n ∧ n ≤ 72)
  rotate_left
  · rw [if_neg hn]
    rw [if_neg hn] at K
    refine ⟨fun q1 => ?_, fun q2 => ?_⟩
    try (any_goals (exfalso; first | omega | exact absurd trivial (by assumption)))
    exact K v Fz_rf hQ
  rw [if_pos hn]
  rw [if_pos hn] at K
  obtain ⟨hR, hn⟩ := hn
  obtain ⟨m, rfl⟩ : ∃ m : Nat, n = m := ⟨n.toNat, by omega⟩
  rw [Int.toNat_natCast] at K
  refine ⟨fun q1 => ?_, fun q2 => ?_⟩
  try (any_goals (exfalso; first | omega | exact absurd trivial (by assumption)))
  refine fzm_8 (v0 := v) (fun v1 f1 f2 => ?_) 36 0 (by omega) (fun _ _ => rfl) (fun a a1 a2 => by omega)
  have q1' : QM v1 W c S := QM_1 (x := 104) (by omega) f1 hQ
  refine c_M_putAside q1'.1 (fun v2 a1 a2 a3 a4 a5 => ?_)
  refine fzm_22 q1' (by omega) (fun v3 y1 y2 => K v3 (Fz_tr (Fz_1 (x := 104) (by omega) f1) y1) y2) m 0 (by omega) ⟨a1, a4, a5, a2 39 (by omega), a3 94 (by omega) (by omega), a3 96 (by omega) (by omega)⟩ (fun a b1 b2 => ?_)
  rw [a3 104 (by omega) (by omega)]
  rw [f2 a b1 b2, if_neg (fun q => by cases q.2)]
end
