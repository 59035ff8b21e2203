/-! THE SAME FRAME SEEN FROM HERE, and back -/
section
variable {p : Program} {l : Launch} {e : Env} {R : Room} {s : State} {m : MethodId} {args : Array Value} {below : List Frame} {meth : Method} {c : Code} {H : Heap} {locs : List Loc} {cells slots : Nat} {Q : State → Prop}
theorem yst_back {T T2 : State} {R' : Room} {locs2 : List Loc} {c2 n2 : Nat} (X : Stand p l e R s m args below meth c T locs cells slots) (Y : Stand p l e R' ((T.setVm s.vm).setFrames (.invoking m args :: below)) m args below meth c T2 locs2 c2 n2) : Stand p l e R s m args below meth c T2 (locs ++ locs2) (cells + c2) (slots + n2) := by
  have hW0 : s.WarmedH ((T.setVm s.vm).setFrames (.invoking m args :: below)).vm := State.WarmedH.refl s
  refine ⟨X.admits, X.cas, X.clock, X.frames, X.room, X.hears, X.method, X.code, Y.here, Y.tail, State.WarmedH.trans hW0 Y.warmed, ?_, ?_, ?_⟩
  · have h := Y.limits
    rw [State.stackLimits_setFrames] at h
    exact h.trans X.limits
  · have h := Y.bytes
    rw [State.stackBytes_setFrames] at h
    exact h.trans X.bytes
  · obtain ⟨e1, e2⟩ := Y.same
    rw [State.setFrames_setFrames] at e1
    have h2 : (T.setVm s.vm).sameButNew (T2.setVm s.vm) locs2 c2 n2 := ⟨e1, e2⟩
    exact X.same.trans h2
theorem yW_again {g : JFrame} {R' : Room} (hf : R'.frames ≤ R.frames) (hl : R'.locals ≤ R.locals) (hc : cells + R'.cells ≤ R.cells) (hs : slots + R'.slots ≤ R.slots)
    (k : ∀ T : State, T.heap = H → Stand p l e R s m args below meth c T locs cells slots → W p l e R' ((T.setVm s.vm).setFrames (.invoking m args :: below)) m args below meth c H [] 0 0 Q g) : W p l e R s m args below meth c H locs cells slots Q g :=
  fun T hT X => k T hT X T hT (vx_rebase X hf hl hc hs)
theorem yW_back {T : State} {R' : Room} {H2 : Heap} {locs2 : List Loc} {c2 n2 : Nat} {g : JFrame} (X : Stand p l e R s m args below meth c T locs cells slots)
    (k : W p l e R s m args below meth c H2 (locs ++ locs2) (cells + c2) (slots + n2) Q g) : W p l e R' ((T.setVm s.vm).setFrames (.invoking m args :: below)) m args below meth c H2 locs2 c2 n2 Q g :=
  fun T2 hT2 Y => k T2 hT2 (yst_back X Y)
end
