/-! ===== the law's body: its calls of its own three ===== -/
/-- what the law's body may call; N: how many of the catching calls at most -/
def EL (d N : Nat) : EE := fun z as M v M' => (z ∉ yLaw → Ev d z as M v M') ∧ (z ∈ yLaw → EvL d z as M v M' ∧ gh M' = gh M + 1 ∧ gh M' ≤ N)
theorem l11W : ∀ q ∈ law11, q.2.headD 0 = 11 ∧ Cond.methodLink (Rn 14) q.1 (yN (q.2.getD 1 0)) ∈ gtb ∧ Cond.static (yN (q.2.getD 1 0)) ∈ gtb ∧ Cond.initialized (yN (q.2.getD 1 0)).cls ∈ gtb ∧ plainY (yN (q.2.getD 1 0)) = true ∧ parN (yN (q.2.getD 1 0)) (q.2.getD 2 0) = true ∧ yM (q.2.getD 1 0) ≤ 40 ∧ q.2.getD 1 0 ∈ [275, 276, 277] := by decide +kernel
section LBO
variable {p : Program} {l : Launch} {e : Env} {R : Room} {s : State} {m : MethodId} {args : Array Value} {below : List Frame} {meth : Method} {c : Code} {Q : State → Prop}
variable {D : va_G} {ad : Nat → Nat} {cA : Nat → ClassId} {y d : Nat} {G : Nat → Prop} {cf sf : Nat → Nat} {pc : Nat} {M M' : Mm}
theorem evl_go {H : Heap} {locs : List Loc} {ls : Array Slot} {cells slots pc : Nat} {st0 rest : List Value} {r : Option Value} {a : Array Value}
    (hr : vx_Run p l e R s m args below meth c H locs cells slots 1 6 (F0 m pc ls st0) rest (PostL D ad cA H.size r M M' a) (fun _ _ _ => False) (AA ad H.size)) (hS : va_S (AA ad s.heap.size) s.heap H locs)
    (kk : ∀ (H1 : Heap) (locs1 : List Loc), gh M' = gh M + 1 → va_P D vwCl (wsM ad cA M') H1 → va_S (AA ad s.heap.size) s.heap H1 locs1 → W p l e R s m args below meth c H1 locs1 (cells + 1) (slots + 6) Q (F0 m (pc + 3) ls ((r.map (pv ad)).toList ++ rest))) :
    W p l e R s m args below meth c H locs cells slots Q (F0 m pc ls st0) := by
  have up := AA_up hS
  intro T hT X
  rcases hr T hT X with ⟨v, st₀, t, T', L, h0, X', hL, e1, e2, ⟨⟨hv, hp, hg⟩, hF⟩, st⟩ | ⟨q, st₀, t, T', L, E, ce, h0, X', hL, e1, e2, hf, -⟩
  · cases hv
    obtain ⟨k1, k2, k3⟩ := vx_keep h0 e1 hS (fun q _ hq => up q hq) up hL hF
    obtain ⟨t2, a1, b1⟩ := kk T'.heap (locs ++ L) hg (by rw [e1]; exact hp) k3 T' rfl X'
    exact ⟨t2, st t2 a1, b1⟩
  · exact hf.elim
theorem run_SX (B : Bd p R s m args c D ad cA y 14 d G cf sf) {H : Heap} {locs : List Loc} {ls : Array Slot} {idx n z : Nat} {r : Option Value} {as rest : List Value} (hst0 : l.stackTraces = false) (hG : XG (AA ad s.heap.size) s s.heap) (hcs : cf (gh M) + 1 ≤ R.cells ∧ sf (gh M) + 6 ≤ R.slots) (hd : decode (yB y) pc = .ok (.invokestatic idx, 3))
    (w0 : Cond.codeWith (yN z) (yB z) (yM z) (yR z) (hhY z) ∈ gtb) (w1 : Cond.methodLink (Rn 14) idx (yN z) ∈ gtb) (w2 : Cond.static (yN z) ∈ gtb) (w3 : Cond.initialized (yN z).cls ∈ gtb) (hp : plainY (yN z) = true) (hn : parN (yN z) n = true) (hm : yM z ≤ 40) (has : as.length = n) (hrest : rest.length ≤ 4) (hE : EvL d z as M r M')
    (hsz : ls.size = yM y) (hP : va_P D vwCl (wsM ad cA M) H) (hS : va_S (AA ad s.heap.size) s.heap H locs) : vx_Run p l e R s m args below meth c H locs (cf (gh M)) (sf (gh M)) 1 6 (F0 m pc ls (((as.reverse ++ rest)).map (pv ad))) (rest.map (pv ad)) (PostL D ad cA H.size r M M' (as.map (pv ad)).toArray) (fun _ _ _ => False) (AA ad H.size) := by
  have hnn : (parseMethodDescriptor (yN z).desc).map (fun d => d.parameters.length) = some n := by
    unfold parN at hn
    exact of_decide_eq_true hn
  unfold plainY at hp
  rw [Bool.and_eq_true, decide_eq_true_eq, decide_eq_true_eq] at hp
  have hr9 := B.2.2.2.2.2.2.2.2.2.1
  have hroom : (rmX d).frames + 1 ≤ R.frames ∧ 8 + (yM z + 11) + (rmX d).locals ≤ R.locals := ⟨hr9.1, by show 8 + (yM z + 11) + 200 * d ≤ R.locals; omega⟩
  have hgs : GoodIn gtb (va_wsS (Rn 14) idx (yN z) (Cond.codeWith (yN z) (yB z) (yM z) (yR z) (hhY z) :: gtb)) := fun w hw => by
    unfold va_wsS at hw
    rcases List.mem_append.mp hw with q | q
    · simp only [List.mem_cons, List.not_mem_nil, or_false] at q
      rcases q with rfl | rfl | rfl
      · exact ⟨w1, good_of_word (gtb_good w1)⟩
      · exact ⟨w2, good_of_word (gtb_good w2)⟩
      · exact ⟨w3, good_of_word (gtb_good w3)⟩
    · rcases List.mem_cons.mp q with e | e
      · subst e; exact ⟨w0, good_of_word (gtb_good w0)⟩
      · exact ⟨e, good_of_word (gtb_good e)⟩
  have hpre : PreS s H (PreX D ad cA H.size as M) (as.map (pv ad)) := ⟨preX_blind, fun U hU hW => ⟨pre_call B hP hS hU hW, XG_at hS hG hW hU⟩⟩
  have hstk : ((as.reverse ++ rest)).map (pv ad) = (as.map (pv ad)).reverse ++ rest.map (pv ad) := by rw [List.map_append, List.map_reverse]
  exact vx_runSX ⟨B.1, B.2.1, B.2.2.1, B.2.2.2.1, B.2.2.2.2.1⟩ (hE l hst0 D ad cA H.size) (vx_cwSW n B.2.2.2.2.1 hgs rfl rfl rfl ⟨hp.1, hp.2, hnn⟩ hroom) hpre rfl (by rw [List.length_map]; exact has) hsz hstk (lv_room (rest_ok hrest)) hd hcs
theorem c11 {N c0 s0 : Nat} (B : Bd p R s m args c D ad cA y 14 d (fun g => g ≤ N) (fun g => c0 + g) (fun g => s0 + 6 * g)) (hst0 : l.stackTraces = false) (hG : XG (AA ad s.heap.size) s s.heap) : C11 true (EL d N) p l e R s m args below meth c Q D ad cA y (fun g => g ≤ N) (fun g => c0 + g) (fun g => s0 + 6 * g) := by
  intro _ pc idx z n rk t L S M K hd hmem ih h
  obtain ⟨as, r, g1, g2, g3⟩ := takeS_e h
  rw [List.append_nil] at g3
  obtain ⟨hc, g4⟩ := condT g3
  have c2 := Nat.le_of_ble_eq_true hc
  obtain ⟨v, M', h1, h2⟩ := wpInv_e g4
  obtain ⟨-, w1, w2, w3, w4, w5, w6, w7⟩ := l11W _ hmem
  have w7 : z ∈ [275, 276, 277] := w7
  have hz : z ∈ yLaw := by
    simp only [List.mem_cons, List.not_mem_nil, or_false] at w7
    rcases w7 with rfl | rfl | rfl <;> decide
  obtain ⟨hE, hgh, hN⟩ := h1.2 hz
  intro hg H locs ls hlk hP hS
  have b1 := (B.2.2.2.2.2.2.2.2.2.2 _ hN).1
  have b2 := (B.2.2.2.2.2.2.2.2.2.2 _ hN).2
  rw [hgh] at b1 b2
  have hrun := run_SX (l := l) (e := e) (below := below) (meth := meth) (rest := r) B hst0 hG ⟨by show c0 + gh M + 1 ≤ R.cells; omega, by show s0 + 6 * gh M + 6 ≤ R.slots; omega⟩ hd (lawW z w7) w1 w2 w3 w4 w5 w6 g1 c2 hE hlk.1 hP hS
  rw [← g2] at hrun
  refine evl_go hrun hS fun H1 locs1 _ hP1 hS1 => ?_
  have h9 := ih _ _ h2 hN H1 locs1 ls hlk hP1 hS1
  have e1 : c0 + gh M' = c0 + gh M + 1 := by omega
  have e2 : s0 + 6 * gh M' = s0 + 6 * gh M + 6 := by omega
  dsimp only at h9
  rw [e1, e2] at h9
  rw [map_toList]
  exact h9
end LBO
