/-! ===== what a wall took ===== -/
theorem CB.sm {M : Mm} {ps a k : Nat} {g : Nat → Int} {v : Int32} (ha : a < 100) (h : CB M ps g) : CB (sI M a k v) ps g := by
  obtain ⟨hp, ep, hr, hc, hx⟩ := h
  have : 100 ≤ ps := by rcases hp with rfl | rfl | rfl | rfl <;> decide
  exact ⟨hp, ep, hr.of fun a h1 h2 => mI_fn (by omega), hc.of fun a h1 h2 => mI_fn (by omega), hx⟩
def builtA (g : Nat → Int) (n : Nat) (by_ : Nat → Nat) : Int := if (n : Int) = g 0 ∧ 1 ≤ n ∧ ∀ w, w < n → by_ w ≤ 60 then sumL (fun w => g (8 + w) * tri (by_ w)) n else -1
def builtV (g : Nat → Int) (n : Nat) (by_ : Nat → Nat) (z : Int) : Int := if (n : Int) = g 0 ∧ 1 ≤ n ∧ ∀ w, w < n → by_ w ≤ 60 then sumL (fun w => g (8 + w) * tri (by_ w + 1) - 1) n else z
section BLT
variable {M : Mm} {ps n : Nat} {g : Nat → Int} {by_ : Nat → Nat}
theorem b_built {d : Nat} (hb : CB M ps g) (ht : TC M n by_) {mv : Int} (e17 : M.1 1 17 = I mv) : EvQ (d + 4) 34 [.ref 1] M fun r M' => r = some (.int (I (builtA g n by_))) ∧ CB M' ps g ∧ TC M' 0 by_ ∧ M'.1 1 17 = I (builtV g n by_ mv) ∧ F1 2 4 [17] M M' := by
  have hp := hb.1
  have ep := hb.2.1
  have hr := hb.2.2.1
  have hs := hb.2.2.2.2.1
  have h0 := hs.1.1
  have hn := ht.2.1
  have hne := St_far hp
  have hb1 : CB (sI M 2 1 (I 0)) ps g := hb.sm (by decide)
  have ht1 : TC (sI M 2 1 (I 0)) 0 by_ := ⟨mI_eq, by omega, fun k hk => absurd hk (by omega)⟩
  have hy1 : ∀ k, k < n → (sI M 2 1 (I 0)).1 3 k = I (by_ k : Nat) ∧ by_ k < 256 := fun k hk => by rw [mI_n1 (by decide)]; exact ht.2.2 k hk
  have hf1 : F1 2 4 [17] M (sI M 2 1 (I 0)) := F1.of (Fr.sI (by omega) (by omega)) (by omega)
  have e17' : (sI M 2 1 (I 0)).1 1 17 = I mv := by rw [mI_n1 (by decide), e17]
  apply e_B_built
  intro At step
  rw [ep, ht.1, mI_n1 (by omega), hr.1.1]
  generalize sI M 2 1 (I 0) = N at hb1 ht1 hy1 hf1 e17' ⊢
  have no : ¬ ((n : Int) = g 0 ∧ 1 ≤ n ∧ ∀ w, w < n → by_ w ≤ 60) → some (Value.int (I (-1))) = some (.int (I (builtA g n by_))) ∧ CB N ps g ∧ TC N 0 by_ ∧ N.1 1 17 = I (builtV g n by_ mv) ∧ F1 2 4 [17] M N := by
    intro q
    unfold builtA builtV
    rw [if_neg q, if_neg q]
    exact ⟨rfl, hb1, ht1, e17', hf1⟩
  rw [I_ne (by omega) (by omega) (by omega) (by omega), I_lt (by omega) (by omega) (by omega) (by omega)]
  refine ⟨hp, fun q => ⟨fun q2 => no (by omega), fun q2 => ?_⟩, fun q => no (by omega)⟩
  refine loopU (P := fun k : Nat => (∀ w, w < k → by_ w ≤ 60) → At 41 [.ref 1, .retAddr 0, .int (I (sumL (fun w => g (8 + w) * tri (by_ w)) k)), .int (I (sumL (fun w => g (8 + w) * tri (by_ w + 1) - 1) k)), .int (I (k : Int)), .retAddr 0] [] N) (n := n) ?_ ?_ (fun w hw => absurd hw (by omega))
  · intro hal
    apply s_B_built_41 step
    rw [hb1.2.1, hb1.2.2.1.1.1, I_lt (by omega) (by omega) (by omega) (by omega)]
    have ok : (n : Int) = g 0 ∧ 1 ≤ n ∧ ∀ w, w < n → by_ w ≤ 60 := ⟨q, by omega, hal⟩
    refine ⟨hp, fun z => absurd z (by omega), fun _ => ⟨?_, hb1.f1, ⟨by rw [mI_n1 (by decide)]; exact ht1.1, by omega, fun k hk => absurd hk (by omega)⟩, ?_, hf1.trans (F1.st (by simp))⟩⟩
    · unfold builtA
      rw [if_pos ok]
    · unfold builtV
      rw [if_pos ok, mI_eq]
  · intro k hk nx hal
    apply s_B_built_41 step
    obtain ⟨y1, y2⟩ := hy1 k hk
    rw [hb1.2.1, hb1.2.2.1.1.1, I_lt (by omega) (by omega) (by omega) (by omega), ixI (by omega) (by omega), Int.toNat_natCast, y1, I_lt (by omega) (by omega) (by omega) (by omega), I_add]
    refine ⟨hp, fun _ => ⟨inRI (by omega) (by omega) (by omega), fun z => no ?_, fun z => ?_⟩, fun z => absurd (by omega) z⟩
    · intro w
      have := w.2.2 k hk
      omega
    · refine ⟨_, _, c_bagsFor hp hb1.2.2.1 hs (by omega) (by omega) (by omega), ?_⟩
      rw [hb1.2.1]
      refine ⟨hp, _, _, c_bagsFor hp hb1.2.2.1 hs (by omega) (by omega) (by omega), ?_⟩
      rw [if_pos (by omega), if_pos (by omega), Int.toNat_natCast, I_sub, I_add, I_add, I_add]
      refine nx fun w hw => ?_
      by_cases e : w = k
      · subst e
        omega
      · exact hal w (by omega)
theorem b_most {d : Nat} {mv : Int} (e : M.1 1 17 = I mv) : Ev (d + 1) 35 [.ref 1] M (some (.int (I mv))) M := by
  apply Ev.ofQ
  apply e_B_most
  intro At _
  rw [e]
  exact ⟨rfl, rfl⟩
theorem b_walling {d : Nat} {mv : Int} (e : M.1 1 15 = I mv) : Ev (d + 1) 25 [.ref 1] M (some (.int (I mv))) M := by
  apply Ev.ofQ
  apply e_B_walling
  intro At _
  rw [e]
  exact ⟨rfl, rfl⟩
theorem b_carried {d : Nat} {mv : Int} (e : M.1 1 16 = I mv) : Ev (d + 1) 33 [.ref 1] M (some (.int (I mv))) M := by
  apply Ev.ofQ
  apply e_B_carried
  intro At _
  rw [e]
  exact ⟨rfl, rfl⟩
theorem b_fault {d : Nat} {mv : Int} (e : M.1 1 12 = I mv) : Ev (d + 1) 3 [.ref 1] M (some (.int (I mv))) M := by
  apply Ev.ofQ
  apply e_B_fault
  intro At _
  rw [e]
  exact ⟨rfl, rfl⟩
theorem r_most {d : Nat} {mv : Int} (e : (M.1 400 39 = I 0 ∧ mv = -1) ∨ (M.1 400 39 = I 1 ∧ M.1 400 38 = I mv)) : Ev (d + 1) 146 [.ref 400] M (some (.int (I mv))) (sI M 400 0 (I 0)) := by
  apply Ev.ofQ
  apply e_R_most
  intro At _
  rcases e with ⟨e1, rfl⟩ | ⟨e1, e2⟩
  · rw [e1]
    exact ⟨fun _ => ⟨rfl, rfl⟩, fun q => absurd rfl q⟩
  · rw [e1, e2]
    exact ⟨fun q => absurd q (by decide), fun _ => ⟨rfl, rfl⟩⟩
theorem r_walling {d : Nat} {mv : Int} (e : (M.1 400 33 = I 0 ∧ mv = -1) ∨ (M.1 400 33 = I 1 ∧ M.1 400 32 = I mv)) : Ev (d + 1) 138 [.ref 400] M (some (.int (I mv))) (sI M 400 0 (I 0)) := by
  apply Ev.ofQ
  apply e_R_walling
  intro At _
  rcases e with ⟨e1, rfl⟩ | ⟨e1, e2⟩
  · rw [e1]
    exact ⟨fun _ => ⟨rfl, rfl⟩, fun q => absurd rfl q⟩
  · rw [e1, e2]
    exact ⟨fun q => absurd q (by decide), fun _ => ⟨rfl, rfl⟩⟩
theorem r_carried {d : Nat} {mv : Int} (e : (M.1 400 37 = I 0 ∧ mv = -1) ∨ (M.1 400 37 = I 1 ∧ M.1 400 36 = I mv)) : Ev (d + 1) 144 [.ref 400] M (some (.int (I mv))) (sI M 400 0 (I 0)) := by
  apply Ev.ofQ
  apply e_R_carried
  intro At _
  rcases e with ⟨e1, rfl⟩ | ⟨e1, e2⟩
  · rw [e1]
    exact ⟨fun _ => ⟨rfl, rfl⟩, fun q => absurd rfl q⟩
  · rw [e1, e2]
    exact ⟨fun q => absurd q (by decide), fun _ => ⟨rfl, rfl⟩⟩
theorem r_fault {d : Nat} {mv : Int} (e : M.1 400 15 = I mv) : Ev (d + 1) 85 [.ref 400] M (some (.int (I mv))) (sI M 400 0 (I 0)) := by
  apply Ev.ofQ
  apply e_R_fault
  intro At _
  rw [e]
  exact ⟨rfl, rfl⟩
theorem r_octet {d : Nat} {k : Nat} (hk : k < 940) (h : M.1 401 k = sb (by_ k) ∧ by_ k < 256) : Ev (d + 1) 63 [.ref 400, .int (I k)] M (some (.int (I (by_ k : Nat)))) M := by
  apply Ev.ofQ
  apply e_R_octet
  intro At _
  rw [ixI (by omega) (by omega), Int.toNat_natCast, h.1, sb_and0 _ h.2]
  exact ⟨inRI (by omega) (by omega) (by omega), rfl, rfl⟩
theorem r_built {d n' : Nat} {us : Nat → Nat → Int} (h : RU M g n' us) (ht : TR M n by_) {mv : Int} (e : (M.1 400 39 = I 0 ∧ mv = -1) ∨ (M.1 400 39 = I 1 ∧ M.1 400 38 = I mv)) : EvQ (d + 4) 145 [.ref 400] M fun r M' => r = some (.int (I (builtA g n by_))) ∧ RU M' g n' us ∧ TR M' 0 by_ ∧ ((M'.1 400 39 = I 0 ∧ builtV g n by_ mv = -1) ∨ (M'.1 400 39 = I 1 ∧ M'.1 400 38 = I (builtV g n by_ mv))) ∧ RF [401] [0, 2, 3, 4, 5, 38, 39] M M' := by
  have h0 := h.2.2.1.1.1
  have hn := ht.2.1
  apply e_R_built
  intro At step
  have hN : ∃ N : Mm, N = sI (sI (sI (sI (sI M 400 0 (I 0)) 400 3 (I n)) 400 2 (I 0)) 400 4 (I 0)) 400 5 (I 940) ∧ Ev (d + 3) 56 [.ref 400, .int (I 940)] (sI M 400 0 (I 0)) none N := by
    refine ⟨_, rfl, ?_⟩
    apply Ev.ofQ
    apply e_R_taken
    intro At _
    rw [mI_n2 (by decide), ht.1]
    exact ⟨rfl, rfl⟩
  obtain ⟨N, eN, hEv⟩ := hN
  have hf1 : RF [401] [0, 2, 3, 4, 5, 38, 39] M N := by
    rw [eN]
    exact ((((RF.f (by simp)).trans (RF.f (by simp))).trans (RF.f (by simp))).trans (RF.f (by simp))).trans (RF.f (by simp))
  have n402 : N.1 402 = M.1 402 := (hf1.1 402 (by simp) (by decide)).1
  have n407 : N.1 407 = M.1 407 := (hf1.1 407 (by simp) (by decide)).1
  have n401 : N.1 401 = M.1 401 := by
    rw [eN, mI_fn (by decide), mI_fn (by decide), mI_fn (by decide), mI_fn (by decide), mI_fn (by decide)]
  have hRN : RU N g n' us := ⟨by rw [n402]; exact h.1, h.2.1.fr (hf1.2.1 23 (by simp)) n407, h.2.2⟩
  have htN : TR N 0 by_ := ⟨by rw [eN]; simp (disch := omega) only [mI_eq, mI_n2]; rfl, by omega, fun k hk => absurd hk (by omega)⟩
  have e3 : N.1 400 3 = I n := by rw [eN]; simp (disch := omega) only [mI_eq, mI_n2]
  have e38 : N.1 400 38 = M.1 400 38 := by rw [eN]; simp (disch := omega) only [mI_n2]
  have e39 : N.1 400 39 = M.1 400 39 := by rw [eN]; simp (disch := omega) only [mI_n2]
  have hy : ∀ k, k < n → N.1 401 k = sb (by_ k) ∧ by_ k < 256 := fun k hk => by rw [n401]; exact ht.2.2 k hk
  refine ⟨N, hEv, ?_⟩
  rw [e3, show N.1 402 0 = I (g 0) by rw [hRN.1]]
  clear eN hEv
  have no : ¬ ((n : Int) = g 0 ∧ 1 ≤ n ∧ ∀ w, w < n → by_ w ≤ 60) → some (Value.int (I (-1))) = some (.int (I (builtA g n by_))) ∧ RU N g n' us ∧ TR N 0 by_ ∧ ((N.1 400 39 = I 0 ∧ builtV g n by_ mv = -1) ∨ (N.1 400 39 = I 1 ∧ N.1 400 38 = I (builtV g n by_ mv))) ∧ RF [401] [0, 2, 3, 4, 5, 38, 39] M N := by
    intro q
    unfold builtA builtV
    rw [if_neg q, if_neg q, e38, e39]
    exact ⟨rfl, hRN, htN, e, hf1⟩
  rw [I_ne (by omega) (by omega) (by omega) (by omega), I_ne (by omega) (by omega) (by omega) (by omega)]
  refine ⟨fun q => no (by omega), fun q => ⟨fun q2 => ?_, fun q2 => no (by omega)⟩⟩
  refine loopU (P := fun k : Nat => (∀ w, w < k → by_ w ≤ 60) → At 36 [.ref 400, .int (I (k : Int)), .retAddr 0] [] N) (n := n) ?_ ?_ (fun w hw => absurd hw (by omega))
  · intro hal
    apply s_R_built_36 step
    rw [e3, I_lt (by omega) (by omega) (by omega) (by omega)]
    refine ⟨fun z => absurd z (by omega), fun _ => ?_⟩
    have ok : (n : Int) = g 0 ∧ 1 ≤ n ∧ ∀ w, w < n → by_ w ≤ 60 := ⟨q2, by omega, hal⟩
    refine loopU (P := fun k : Nat => ∀ O : Mm, RF [401] [38, 39] N O → O.1 401 = N.1 401 → O.1 400 39 = I 1 → O.1 400 38 = I (sumL (fun w => g (8 + w) * tri (by_ w + 1) - 1) k) → At 76 [.ref 400, .int (I (sumL (fun w => g (8 + w) * tri (by_ w)) k)), .int (I (k : Int))] [] O) (n := n) ?_ ?_ _ ((RF.f (by simp)).trans (RF.f (by simp))) (by rw [mI_fn (by decide), mI_fn (by decide)]) mI_eq (by rw [mI_n2 (by decide), mI_eq]; rfl)
    · intro O hO o1 o2 o3
      apply s_R_built_76 step
      have o4 : O.1 400 3 = I n := by rw [hO.2.1 3 (by simp), e3]
      rw [o4, I_lt (by omega) (by omega) (by omega) (by omega)]
      have f2 : RF [401] [0, 2, 3, 4, 5, 38, 39] N O := hO.mono (fun _ z => z) (fun _ z => by simp at z ⊢; omega)
      refine ⟨fun z => absurd z (by omega), fun _ => ⟨?_, ⟨?_, hRN.2.1.fr (hO.2.1 23 (by simp)) (hO.1 407 (by simp) (by decide)).1, hRN.2.2⟩, ⟨by rw [hO.2.1 2 (by simp)]; exact htN.1, by omega, fun k hk => absurd hk (by omega)⟩, Or.inr ⟨o2, ?_⟩, hf1.trans f2⟩⟩
      · unfold builtA
        rw [if_pos ok]
      · rw [(hO.1 402 (by simp) (by decide)).1]
        exact hRN.1
      · unfold builtV
        rw [if_pos ok, o3]
    · intro k hk nx O hO o1 o2 o3
      apply s_R_built_76 step
      have o4 : O.1 400 3 = I n := by rw [hO.2.1 3 (by simp), e3]
      have o5 : O.1 402 = fun k => I (g k) := by
        rw [(hO.1 402 (by simp) (by decide)).1]
        exact hRN.1
      have hyk := hy k hk
      have hak := hal k hk
      rw [← o1] at hyk
      rw [o4, I_lt (by omega) (by omega) (by omega) (by omega)]
      refine ⟨fun _ => ⟨_, _, r_octet (by omega) hyk, _, _, v_takesOf o5 (by omega) (by omega) (by omega), _, _, r_octet (by omega) hyk, ?_⟩, fun z => absurd (by omega) z⟩
      rw [I_add]
      refine ⟨_, _, v_takesOf o5 (by omega) (by omega) (by omega), ?_⟩
      rw [o3, I_sub, I_add, I_add, I_add]
      exact nx _ (hO.trans (RF.f (by simp))) (by rw [mI_fn (by decide)]; exact o1) (by rw [mI_n2 (by decide)]; exact o2) mI_eq
  · intro k hk nx hal
    apply s_R_built_36 step
    rw [e3, I_lt (by omega) (by omega) (by omega) (by omega)]
    refine ⟨fun _ => ⟨_, _, r_octet (by omega) (hy k hk), ?_⟩, fun z => absurd (by omega) z⟩
    have hyk := (hy k hk).2
    rw [I_lt (by omega) (by omega) (by omega) (by omega), I_add]
    refine ⟨fun z => no ?_, fun z => nx fun w hw => ?_⟩
    · intro w
      have := w.2.2 k hk
      omega
    · by_cases e : w = k
      · subst e
        omega
      · exact hal w (by omega)
end BLT
