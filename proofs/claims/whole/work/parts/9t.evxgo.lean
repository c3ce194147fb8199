/-! ===== behind a call that returned or threw ===== -/
section EVG
variable {p : Program} {l : Launch} {e : Env} {R : Room} {s : State} {m : MethodId} {args : Array Value} {below : List Frame} {meth : Method} {c : Code} {Q : State → Prop}
variable {D : va_G} {ad : Nat → Nat} {cA : Nat → ClassId} {M M' : Mm}
theorem AA_up {H : Heap} {locs : List Loc} (hS : va_S (AA ad s.heap.size) s.heap H locs) : ∀ q, AA ad H.size q → AA ad s.heap.size q := fun q hq => hq.imp id fun k => Nat.le_trans hS.1 k
theorem evx_go {H : Heap} {locs : List Loc} {ls : Array Slot} {cells slots pc : Nat} {st0 rest : List Value} {r : Option Value} {ok : Prop} {a : Array Value}
    (hr : vx_Run p l e R s m args below meth c H locs cells slots 1 6 (F0 m pc ls st0) rest (PostX ok D ad cA H.size r M M' a) (XCX ok D ad cA H.size M) (AA ad H.size)) (hS : va_S (AA ad s.heap.size) s.heap H locs)
    (kk : ok → ∀ (H1 : Heap) (locs1 : List Loc), gh M' = gh M → va_P D vwCl (wsM ad cA M') H1 → va_S (AA ad s.heap.size) s.heap H1 locs1 → W p l e R s m args below meth c H1 locs1 (cells + 1) (slots + 6) Q (F0 m (pc + 3) ls ((r.map (pv ad)).toList ++ rest)))
    (kx : ¬ ok → ∀ (q : Addr) (ce : Cell) (H1 : Heap) (locs1 : List Loc), va_P D vwCl (wsM ad cA M) H1 → va_S (AA ad s.heap.size) s.heap H1 locs1 → H1[q]? = some ce → ce.vm = .none → s.vm.findClass xE = some ce.cls → vx_W p l e R s m args below meth c H1 locs1 (cells + 1) (slots + 6) Q (F0 m pc ls rest) q) :
    W p l e R s m args below meth c H locs cells slots Q (F0 m pc ls st0) := by
  have up := AA_up hS
  intro T hT X
  rcases hr T hT X with ⟨v, st₀, t, T', L, h0, X', hL, e1, e2, ⟨⟨⟨hv, hp, hg⟩, hF⟩, hok⟩, st⟩ | ⟨q, st₀, t, T', L, E, ce, h0, X', hL, e1, e2, ⟨-, hno, ⟨rfl, hp⟩, hF⟩, hce, hcv, hcl, st⟩
  · cases hv
    obtain ⟨k1, k2, k3⟩ := vx_keep h0 e1 hS (fun q _ hq => up q hq) up hL hF
    obtain ⟨t2, a1, b1⟩ := kk hok T'.heap (locs ++ L) hg (by rw [e1]; exact hp) k3 T' rfl X'
    exact ⟨t2, st t2 a1, b1⟩
  · obtain ⟨k1, k2, k3⟩ := vx_keep h0 e1 hS (fun q _ hq => up q hq) up hL hF
    obtain ⟨t2, a1, b1⟩ := kx hno q ce T'.heap (locs ++ L) (by rw [e1]; exact hp) k3 (by rw [e1]; exact hce) hcv hcl T' rfl X'
    exact ⟨t2, st.trans a1, b1⟩
end EVG
