/-! ===== the reference's acts ===== -/
/-- nothing changed but the arrays of L and the numbers of T in the object itself -/
def RF (L T : List Nat) (M M' : Mm) : Prop := (∀ a, a ∉ L → a ≠ 400 → M'.1 a = M.1 a ∧ M'.2.1 a = M.2.1 a) ∧ (∀ k, k ∉ T → M'.1 400 k = M.1 400 k) ∧ M'.2.2 = M.2.2
theorem RF.refl {L T : List Nat} {M : Mm} : RF L T M M := ⟨fun _ _ _ => ⟨rfl, rfl⟩, fun _ _ => rfl, rfl⟩
theorem RF.trans {L T : List Nat} {M N O : Mm} (h : RF L T M N) (k : RF L T N O) : RF L T M O := ⟨fun a h1 h2 => ⟨(k.1 a h1 h2).1.trans (h.1 a h1 h2).1, (k.1 a h1 h2).2.trans (h.1 a h1 h2).2⟩, fun j hj => (k.2.1 j hj).trans (h.2.1 j hj), k.2.2.trans h.2.2⟩
theorem RF.mono {L T L' T' : List Nat} {M N : Mm} (h : RF L T M N) (h1 : ∀ a, a ∈ L → a ∈ L') (h2 : ∀ a, a ∈ T → a ∈ T') : RF L' T' M N := ⟨fun a q1 q2 => h.1 a (fun z => q1 (h1 a z)) q2, fun j hj => h.2.1 j (fun z => hj (h2 j z)), h.2.2⟩
theorem RF.st {L T : List Nat} {M : Mm} {a k : Nat} {v : Int32} (h : a ∈ L) (h4 : a ≠ 400) : RF L T M (sI M a k v) := ⟨fun b h1 h2 => ⟨mI_fn (fun e => h1 (e ▸ h)), rfl⟩, fun j hj => mI_n1 (fun e => h4 e.symm), rfl⟩
theorem RF.f {L T : List Nat} {M : Mm} {k : Nat} {v : Int32} (h : k ∈ T) : RF L T M (sI M 400 k v) := ⟨fun b h1 h2 => ⟨mI_fn h2, rfl⟩, fun j hj => mI_n2 (fun e => hj (e ▸ h)), rfl⟩
theorem RF.ss {L T : List Nat} {M : Mm} {a : Nat} {g : Nat → Int} (h : a ∈ L) (h4 : a ≠ 400) : RF L T M (sS a M g) := ⟨fun b h1 h2 => ⟨sS_ne (fun e => h1 (e ▸ h)), rfl⟩, fun j hj => by rw [sS_ne (fun e => h4 e.symm)], rfl⟩
def RU (M : Mm) (g : Nat → Int) (n : Nat) (us : Nat → Nat → Int) : Prop := (M.1 402 = fun k => I (g k)) ∧ PR M n us ∧ RGs g ∧ RGd g ∧ RN g
theorem PR.fr {M M' : Mm} {n : Nat} {us : Nat → Nat → Int} (h : PR M n us) (h1 : M'.1 400 23 = M.1 400 23) (h2 : M'.1 407 = M.1 407) : PR M' n us := by
  obtain ⟨p1, p2, p3⟩ := h
  exact ⟨by rw [h1]; exact p1, p2, fun j i hj hi => by rw [h2]; exact p3 j i hj hi⟩
section RAC
variable {M : Mm} {n : Nat} {g : Nat → Int} {us : Nat → Nat → Int}
theorem r_posts {d : Nat} (hm : M.1 402 = fun k => I (g k)) {f c w : Int} : Ev (d + 1) 105 [.ref 400, .int (I f), .int (I c), .int (I w)] M none (sS 402 M (postsG g f c w)) := by
  apply Ev.ofQ
  apply e_R_posts
  intro At _
  refine ⟨rfl, ?_⟩
  rw [sI_sS hm, sS_put, sS_put]
  rfl
theorem r_quits {d : Nat} (hm : M.1 402 = fun k => I (g k)) (hd : RGd g) {w : Nat} (hw : w < 5) : Ev (d + 1) 106 [.ref 400, .int (I w)] M none (sS 402 M (quitsG g w)) := by
  have hb := (bags_b hd).2.2.1 w hw
  have hq := hd.1.2.2.2.2.2.2.2.2.2.1
  apply Ev.ofQ
  apply e_R_quits
  intro At _
  have e : ∀ k, M.1 402 k = I (g k) := fun k => by rw [hm]
  simp (disch := omega) only [e, I_add, I_sub, I_mul, I_div, ixI, Int.toNat_add, Int.toNat_natCast, Int.reduceToNat, I_lt, I_ne, ite_I]
  refine ⟨inRI (by omega) (by omega) (by omega), inRI (by omega) (by omega) (by omega), fun N hN => ⟨by trivial, ?_⟩⟩
  rw [hN, sI_sS hm, sS_put, sS_at]
  dsimp only
  rw [upf_ne (show 98 ≠ 101 + w by omega), upf_ne (by decide), show I (g 98) = I (((g 98).toNat : Nat) : Int) by rw [show ((g 98).toNat : Int) = g 98 by omega], shl0 w (by omega), I_or, sS_put]
  rfl
theorem r_carriesUp {d : Nat} (hm : M.1 402 = fun k => I (g k)) (hd : RGd g) {k : Nat} (hk : k < 10) : Ev (d + 1) 108 [.ref 400, .int (I k)] M none (sS 402 M (upsG g k)) := by
  have hq := hd.1.2.2.2.2.2.2.2.2.2.2.1
  apply Ev.ofQ
  apply e_R_carriesUp
  intro At _
  refine ⟨rfl, ?_⟩
  rw [hm]
  dsimp only
  rw [show I (g 99) = I (((g 99).toNat : Nat) : Int) by rw [show ((g 99).toNat : Int) = g 99 by omega], shl0 k hk, I_or, sI_sS hm, I_add, sS_put]
  rfl
theorem r_whyUp {d : Nat} (hm : M.1 402 = fun k => I (g k)) (hd : RGd g) {k : Nat} (hk : k < 10) : Ev (d + 2) 107 [.ref 400, .int (I k)] M (some (.int (I (if g (112 + k) = 0 then (if bt (g 99).toNat k = 1 then 2 else 0) else 1)))) M := by
  obtain ⟨-, -, -, -, -, -, -, -, -, -, hu, hf⟩ := hd.1
  have h3 := hd.2.2.2 k hk
  have e99 : M.1 402 99 = I (((g 99).toNat : Nat) : Int) := by
    rw [hm]
    dsimp only
    rw [show ((g 99).toNat : Int) = g 99 by omega]
  have e100 : M.1 402 100 = I (((g 100).toNat : Nat) : Int) := by
    rw [hm]
    dsimp only
    rw [show ((g 100).toNat : Int) = g 100 by omega]
  apply Ev.ofQ
  apply e_R_whyUp
  intro At _
  rw [e100]
  refine ⟨_, _, v_bitOf (by omega) hk, ?_⟩
  rw [bI0]
  refine ⟨fun q => ?_, fun q => ⟨?_, rfl⟩⟩
  · have q0 : g (112 + k) = 0 := by
      by_cases z : g (112 + k) = 0
      · exact z
      · exact absurd (h3.2.2.1.mpr z) q
    rw [e99, if_pos q0]
    refine ⟨_, _, v_bitOf (by omega) hk, ?_⟩
    rw [bI0]
    exact ⟨fun q2 => ⟨by rw [if_neg q2], rfl⟩, fun q2 => ⟨by rw [if_pos (Decidable.of_not_not q2)], rfl⟩⟩
  · rw [if_neg (h3.2.2.1.mp (Decidable.of_not_not q))]
theorem r_isWhere {d : Nat} (hm : M.1 402 = fun k => I (g k)) (hs : RGs g) {w : Int} (hw : (-2147483648 ≤ w ∧ w < 2147483648)) : Ev (d + 3) 103 [.ref 400, .int (I w)] M (some (.int (I (if 0 ≤ w ∧ w < g 0 ∨ 10 ≤ w ∧ w < 10 + g 2 then 1 else 0)))) M := by
  have h0 := hs.1.1
  have h2 := hs.1.2.2.1
  apply Ev.ofQ
  apply e_R_isWhere
  intro At _
  refine ⟨_, _, r_isWall hm hs hw, ?_⟩
  rw [bI0]
  refine ⟨fun q => ?_, fun q => ⟨by rw [if_pos (by omega)], rfl⟩⟩
  by_cases z : -2147483638 ≤ w
  · rw [I_sub]
    refine ⟨_, _, r_isDrain hm hs (by omega), ?_⟩
    rw [bI0]
    exact ⟨fun q2 => ⟨by rw [if_neg (by omega)], rfl⟩, fun q2 => ⟨by rw [if_pos (by omega)], rfl⟩⟩
  · have e : I w - I 10 = I (w - 10 + 4294967296) := by
      rw [I_sub, ← I_add (w - 10) 4294967296, show I 4294967296 = 0 from rfl, Int32.add_zero]
    rw [e]
    refine ⟨_, _, r_isDrain hm hs (by omega), ?_⟩
    rw [bI0]
    exact ⟨fun q2 => ⟨by rw [if_neg (by omega)], rfl⟩, fun q2 => absurd (Decidable.of_not_not q2) (by omega)⟩
theorem r_keepQ {d : Nat} (h : RU M g n us) : EvQ (d + 1) 117 [.ref 400] M fun r N => r = none ∧ (N.1 402 = fun k => I (g k)) ∧ PR N (keptN true n) (keptU true g us) ∧ RF [402, 407] [0, 23] M N := by
  obtain ⟨hm, hP, hs, hd, hn⟩ := h
  refine (r_keep hm hP).mono ?_
  rintro r N ⟨rfl, hPN, h1, h2, h3⟩
  refine ⟨rfl, by rw [h1 402 (by decide) (by decide), hm], hPN, fun a q1 q2 => ?_, fun k hk => h2 k (fun e => hk (by simp [e])), by rw [h3]⟩
  rw [h1 a q2 (fun e => q1 (by simp [e])), h3]
  exact ⟨rfl, rfl⟩
/-- the state of things behind an act, out of keep and the act -/
theorem RU.act {N : Mm} {n' : Nat} {us' : Nat → Nat → Int} {g' : Nat → Int} (hPN : PR N n' us') (hs : RGs g') (hd : RGd g') (hn : RN g') : RU (sS 402 N g') g' n' us' :=
  ⟨sS_at, hPN.fr (by rw [sS_ne (by decide)]) (by rw [sS_ne (by decide)]), hs, hd, hn⟩
theorem RU.f0 {v : Int32} (h : RU M g n us) : RU (sI M 400 0 v) g n us := by
  obtain ⟨hm, hP, hx⟩ := h
  exact ⟨by rw [m4 (by decide), hm], hP.fr (mI_n2 (by decide)) (mI_fn (by decide)), hx⟩
theorem RF.f0 {L T : List Nat} {v : Int32} (h : 0 ∈ T) : RF L T M (sI M 400 0 v) := RF.f h
theorem r_post {d : Nat} (h : RU M g n us) {f c w : Int} (hf : (-2147483648 ≤ f ∧ f < 2147483648)) (hc2 : (-2147483648 ≤ c ∧ c < 2147483648)) (hw : (-2147483648 ≤ w ∧ w < 2147483648)) : EvQ (d + 5) 113 [.ref 400, .int (I f), .int (I c), .int (I w)] M fun r M' => r = some (.int (I (postA g f c w))) ∧ RU M' (actG (decide (postA g f c w = 0)) (postsG g f c w) g) (keptN (decide (postA g f c w = 0)) n) (keptU (decide (postA g f c w = 0)) g us) ∧ RF [402, 407] [0, 23] M M' := by
  have h1 := h.f0 (v := I 0)
  have f1 : RF [402, 407] [0, 23] M (sI M 400 0 (I 0)) := RF.f0 (by simp)
  have h5 := h.2.2.1.1.2.2.2.2.2.1
  apply e_R_post
  intro At _
  generalize sI M 400 0 (I 0) = N at h1 f1 ⊢
  have no : ∀ v : Int, v = postA g f c w → ¬ v = 0 → (some (Value.int (I v)) = some (.int (I (postA g f c w))) ∧ RU N (actG (decide (postA g f c w = 0)) (postsG g f c w) g) (keptN (decide (postA g f c w = 0)) n) (keptU (decide (postA g f c w = 0)) g us) ∧ RF [402, 407] [0, 23] M N) := by
    intro v hv hne
    subst hv
    rw [decide_eq_false hne]
    exact ⟨rfl, h1, f1⟩
  obtain ⟨hm, hP, hs, hd, hn⟩ := h1
  have e : ∀ k, N.1 402 k = I (g k) := fun k => by rw [hm]
  refine ⟨_, _, v_isIn hf (by omega) (by omega), ?_⟩
  rw [bI0]
  refine ⟨fun q => no _ (by simp (disch := omega) only [postA, if_neg]) (by decide), fun q => ⟨_, _, v_isIn hc2 (by omega) (by omega), ?_⟩⟩
  rw [bI0, e, I_add]
  refine ⟨fun q2 => no _ (by simp (disch := omega) only [postA, if_neg]) (by decide), fun q2 => ?_⟩
  rw [I_lt (by omega) (by omega) (by omega) (by omega)]
  refine ⟨fun q3 => no _ (by simp (disch := omega) only [postA, if_neg]) (by decide), fun q3 => ⟨_, _, r_isWhere hm hs hw, ?_⟩⟩
  rw [bI0]
  refine ⟨fun q4 => no _ (by simp (disch := omega) only [postA, if_neg]) (by decide), fun q4 => ?_⟩
  have hA : postA g f c w = if g 93 = f ∧ g 94 = c ∧ g 95 = w then 1 else 0 := by
    unfold postA
    rw [if_pos ⟨by omega, by omega, by omega, by omega⟩]
  have h0 := hs.1.1
  have h2 := hs.1.2.2.1
  obtain ⟨-, -, -, -, -, h93, h95, -⟩ := hd.1
  have hip : Ev (d + 4) 104 [.ref 400, .int (I f), .int (I c), .int (I w)] N (some (.int (I (if g 93 = f ∧ g 94 = c ∧ g 95 = w then 1 else 0)))) N := by
    apply Ev.ofQ
    apply e_R_isPosted
    intro At _
    simp (disch := omega) only [e, I_ne]
    refine ⟨fun q1 => ⟨fun q2 => ⟨fun q3 => ⟨by rw [if_pos ⟨q1, q2, q3⟩], by trivial⟩, fun q3 => ⟨by rw [if_neg (fun r => q3 r.2.2)], by trivial⟩⟩, fun q2 => ⟨by rw [if_neg (fun r => q2 r.2.1)], by trivial⟩⟩, fun q1 => ⟨by rw [if_neg (fun r => q1 r.1)], by trivial⟩⟩
  refine ⟨_, _, hip, ?_⟩
  rw [bI0]
  refine ⟨fun q5 => ?_, fun q5 => no _ (by rw [hA, if_pos (Decidable.of_not_not q5)]) (by decide)⟩
  rw [if_neg q5] at hA
  rw [hA, decide_eq_true rfl]
  refine q_non (r_keepQ ⟨hm, hP, hs, hd, hn⟩) ?_
  rintro N2 ⟨hm2, hP2, hf2⟩
  exact ⟨_, r_posts hm2, rfl, RU.act hP2 (hs.same postsG_o.s) (RGd_posts hd (by omega) (by omega)) hn, (f1.trans hf2).trans (RF.ss (by simp) (by decide))⟩
theorem r_quit {d : Nat} (h : RU M g n us) {w : Int} (hw : (-2147483648 ≤ w ∧ w < 2147483648)) : EvQ (d + 5) 114 [.ref 400, .int (I w)] M fun r M' => r = some (.int (I (quitA g w))) ∧ RU M' (actG (decide (quitA g w = 0)) (quitsG g w.toNat) g) (keptN (decide (quitA g w = 0)) n) (keptU (decide (quitA g w = 0)) g us) ∧ RF [402, 407] [0, 23] M M' := by
  have h1 := h.f0 (v := I 0)
  have f1 : RF [402, 407] [0, 23] M (sI M 400 0 (I 0)) := RF.f0 (by simp)
  apply e_R_quit
  intro At _
  generalize sI M 400 0 (I 0) = N at h1 f1 ⊢
  have no : ∀ v : Int, v = quitA g w → ¬ v = 0 → (some (Value.int (I v)) = some (.int (I (quitA g w))) ∧ RU N (actG (decide (quitA g w = 0)) (quitsG g w.toNat) g) (keptN (decide (quitA g w = 0)) n) (keptU (decide (quitA g w = 0)) g us) ∧ RF [402, 407] [0, 23] M N) := by
    intro v hv hne
    subst hv
    rw [decide_eq_false hne]
    exact ⟨rfl, h1, f1⟩
  obtain ⟨hm, hP, hs, hd, hn⟩ := h1
  have hq := hd.1.2.2.2.2.2.2.2.2.2.1
  have h0 := hs.1.1
  refine ⟨_, _, r_isWall hm hs hw, ?_⟩
  rw [bI0]
  refine ⟨fun q => no _ (by simp (disch := omega) only [quitA, if_neg]) (by decide), fun q => ?_⟩
  obtain ⟨k, rfl⟩ := Nn (a := w) (by omega)
  have hA : quitA g k = (bt (g 98).toNat k : Int) := by
    unfold quitA
    rw [if_pos (Decidable.of_not_not q), Int.toNat_natCast]
  have hbt := bt_lt (g 98).toNat k
  have e98 : N.1 402 98 = I (((g 98).toNat : Nat) : Int) := by
    rw [hm]
    dsimp only
    rw [show ((g 98).toNat : Int) = g 98 by omega]
  rw [e98]
  refine ⟨_, _, v_bitOf (by omega) (by omega), ?_⟩
  rw [bI0]
  refine ⟨fun q2 => ?_, fun q2 => no 1 (by rw [hA]; omega) (by decide)⟩
  have hA0 : quitA g k = 0 := by rw [hA]; omega
  rw [hA0, decide_eq_true rfl, Int.toNat_natCast]
  refine q_non (r_keepQ ⟨hm, hP, hs, hd, hn⟩) ?_
  rintro N2 ⟨hm2, hP2, hf2⟩
  exact ⟨_, r_quits hm2 hd (by omega), rfl, RU.act hP2 (hs.same (quitsG_o (by omega)).s) (RGd_quits hd (by omega)) (RN_quits hn (by omega)), (f1.trans hf2).trans (RF.ss (by simp) (by decide))⟩
theorem r_up {d : Nat} (h : RU M g n us) {w : Int} (hw : (-2147483648 ≤ w ∧ w < 2147483648)) : EvQ (d + 5) 115 [.ref 400, .int (I w)] M fun r M' => r = some (.int (I (upA g w))) ∧ RU M' (actG (decide (upA g w = 0)) (upsG g w.toNat) g) (keptN (decide (upA g w = 0)) n) (keptU (decide (upA g w = 0)) g us) ∧ RF [402, 407] [0, 23] M M' := by
  have h1 := h.f0 (v := I 0)
  have f1 : RF [402, 407] [0, 23] M (sI M 400 0 (I 0)) := RF.f0 (by simp)
  apply e_R_up
  intro At _
  generalize sI M 400 0 (I 0) = N at h1 f1 ⊢
  have no : ∀ v : Int, v = upA g w → ¬ v = 0 → (some (Value.int (I v)) = some (.int (I (upA g w))) ∧ RU N (actG (decide (upA g w = 0)) (upsG g w.toNat) g) (keptN (decide (upA g w = 0)) n) (keptU (decide (upA g w = 0)) g us) ∧ RF [402, 407] [0, 23] M N) := by
    intro v hv hne
    subst hv
    rw [decide_eq_false hne]
    exact ⟨rfl, h1, f1⟩
  obtain ⟨hm, hP, hs, hd, hn⟩ := h1
  have h0 := hs.1.2.1
  refine ⟨_, _, r_isHouse hm hs hw, ?_⟩
  rw [bI0]
  refine ⟨fun q => no _ (by simp (disch := omega) only [upA, if_neg]) (by decide), fun q => ?_⟩
  obtain ⟨k, rfl⟩ := Nn (a := w) (by omega)
  have hA : upA g k = (if g (112 + k) = 0 then (if bt (g 99).toNat k = 1 then 2 else 0) else 1) := by
    unfold upA
    rw [if_pos (Decidable.of_not_not q), Int.toNat_natCast]
  refine ⟨_, _, r_whyUp hm hd (by omega), ?_⟩
  rw [← hA]
  have hAb : 0 ≤ upA g k ∧ upA g k ≤ 2 := by
    rw [hA]
    split
    · split <;> decide
    · decide
  rw [I_lt (by omega) (by omega) (by omega) (by omega)]
  refine ⟨fun q2 => no _ rfl (by omega), fun q2 => ?_⟩
  have hA0 : upA g k = 0 := by omega
  have hnb : ¬ bt (g 99).toNat k = 1 := by
    intro z
    rw [if_pos z] at hA
    split at hA <;> omega
  have hb2 := RN_b hd hn
  rw [hA0, decide_eq_true rfl, Int.toNat_natCast]
  refine q_non (r_keepQ ⟨hm, hP, hs, hd, hn⟩) ?_
  rintro N2 ⟨hm2, hP2, hf2⟩
  exact ⟨_, r_carriesUp hm2 hd (by omega), rfl, RU.act hP2 (hs.same upsG_o.s) (RGd_ups hd (by omega) (by omega)) (RN_ups hd hn (by omega) hnb), (f1.trans hf2).trans (RF.ss (by simp) (by decide))⟩
theorem r_hours {d : Nat} (h : RU M g n us) {w : Int} (hw : (-2147483648 ≤ w ∧ w < 2147483648)) : EvQ (d + 6) 116 [.ref 400, .int (I w)] M fun r M' => r = some (.int (I (hoursA g w))) ∧ RU M' (actG (decide (0 < hoursA g w)) (hrsG g w.toNat) g) (keptN (decide (0 < hoursA g w)) n) (keptU (decide (0 < hoursA g w)) g us) ∧ RF [402, 407] [0, 23] M M' := by
  have h1 := h.f0 (v := I 0)
  have f1 : RF [402, 407] [0, 23] M (sI M 400 0 (I 0)) := RF.f0 (by simp)
  apply e_R_hours
  intro At _
  generalize sI M 400 0 (I 0) = N at h1 f1 ⊢
  have no : ∀ v : Int, v = hoursA g w → ¬ 0 < v → (some (Value.int (I v)) = some (.int (I (hoursA g w))) ∧ RU N (actG (decide (0 < hoursA g w)) (hrsG g w.toNat) g) (keptN (decide (0 < hoursA g w)) n) (keptU (decide (0 < hoursA g w)) g us) ∧ RF [402, 407] [0, 23] M N) := by
    intro v hv hne
    subst hv
    rw [decide_eq_false hne]
    exact ⟨rfl, h1, f1⟩
  obtain ⟨hm, hP, hs, hd, hn⟩ := h1
  have hb0 := hd.1.1
  have e : ∀ k, N.1 402 k = I (g k) := fun k => by rw [hm]
  refine ⟨_, _, v_isIn hw (by omega) (by omega), ?_⟩
  rw [bI0, e]
  refine ⟨fun q => no _ (by simp (disch := omega) only [hoursA, if_neg]) (by decide), fun q => ?_⟩
  have hA : hoursA g w = mnI w (48 - g 89) := by
    unfold hoursA
    rw [if_pos (Decidable.of_not_not q)]
  rw [I_ne (by omega) (by omega) (by omega) (by omega)]
  refine ⟨fun q2 => no _ (by rw [hA]; unfold mnI; split <;> omega) (by decide), fun q2 => ?_⟩
  have hp : 0 < hoursA g w := by
    rw [hA]
    unfold mnI
    split <;> omega
  obtain ⟨k, rfl⟩ := Nn (a := w) (by omega)
  obtain ⟨o1, o2, o3⟩ := hrsG_ok (n := k) hs hd hn
  rw [decide_eq_true hp, Int.toNat_natCast]
  refine q_non (r_keepQ ⟨hm, hP, hs, hd, hn⟩) ?_
  rintro N2 ⟨hm2, hP2, hf2⟩
  refine ⟨_, _, r_goesOn hm2 hs hd hn (by omega), ?_, RU.act hP2 (hs.same o1) o2 o3, (f1.trans hf2).trans (RF.ss (by simp) (by decide))⟩
  rw [hA]
  rfl
theorem r_drawn {d : Nat} (h : RU M g n us) {w : Int} {x : Int32} (hw : (-2147483648 ≤ w ∧ w < 2147483648)) : EvQ (d + 6) 149 [.ref 400, .int (I w), .int x] M fun r M' => r = some (.int (I (hoursA g w))) ∧ RU M' (actG (decide (0 < hoursA g w)) (drwG g x w.toNat) g) (keptN (decide (0 < hoursA g w)) n) (keptU (decide (0 < hoursA g w)) g us) ∧ RF [402, 407] [0, 23, 40] M M' := by
  have h1 := h.f0 (v := I 0)
  have f1 : RF [402, 407] [0, 23, 40] M (sI M 400 0 (I 0)) := RF.f0 (by simp)
  apply e_R_drawn
  intro At _
  generalize sI M 400 0 (I 0) = N at h1 f1 ⊢
  have no : ∀ v : Int, v = hoursA g w → ¬ 0 < v → (some (Value.int (I v)) = some (.int (I (hoursA g w))) ∧ RU N (actG (decide (0 < hoursA g w)) (drwG g x w.toNat) g) (keptN (decide (0 < hoursA g w)) n) (keptU (decide (0 < hoursA g w)) g us) ∧ RF [402, 407] [0, 23, 40] M N) := by
    intro v hv hne
    subst hv
    rw [decide_eq_false hne]
    exact ⟨rfl, h1, f1⟩
  obtain ⟨hm, hP, hs, hd, hn⟩ := h1
  have hb0 := hd.1.1
  have e : ∀ k, N.1 402 k = I (g k) := fun k => by rw [hm]
  refine ⟨_, _, v_isIn hw (by omega) (by omega), ?_⟩
  rw [bI0, e]
  refine ⟨fun q => no _ (by simp (disch := omega) only [hoursA, if_neg]) (by decide), fun q => ?_⟩
  have hA : hoursA g w = mnI w (48 - g 89) := by
    unfold hoursA
    rw [if_pos (Decidable.of_not_not q)]
  obtain ⟨k, rfl⟩ := Nn (a := w) (by omega)
  obtain ⟨o1, o2, o3⟩ := drwG_ok (n := k) (x := x) hs hd hn
  have ef : ∀ N : Mm, RF [402, 407] [0, 23, 40] N (sS 402 (sI N 400 40 (sedN g x k)) (drwG g x k)) := fun N => (RF.f (by simp)).trans (RF.ss (by simp) (by decide))
  rw [I_lt (by omega) (by omega) (by omega) (by omega)]
  refine ⟨fun q2 => ?_, fun q2 => ⟨_, _, r_draws hm hs hd hn (by omega), ?_, ?_, f1.trans (ef _)⟩⟩
  · have hp : 0 < hoursA g k := by
      rw [hA]
      unfold mnI
      split <;> omega
    rw [decide_eq_true hp, Int.toNat_natCast]
    refine q_non (r_keepQ ⟨hm, hP, hs, hd, hn⟩) ?_
    rintro N2 ⟨hm2, hP2, hf2⟩
    refine ⟨_, _, r_draws hm2 hs hd hn (by omega), ?_, RU.act (hP2.fr (mI_n2 (by decide)) (mI_fn (by decide))) (hs.same o1) o2 o3, (f1.trans (hf2.mono (fun _ q => q) (fun _ q => by simp only [List.mem_cons, List.not_mem_nil, or_false] at q ⊢; omega))).trans (ef _)⟩
    rw [hA]
    rfl
  · rw [hA]
    rfl
  · have hp : ¬ 0 < hoursA g k := by
      rw [hA]
      unfold mnI
      split <;> omega
    rw [decide_eq_false hp]
    have ed : drwG g x k = g := by
      rw [drwG_cap hs hd hn, show (48 - g 89).toNat = 0 by omega, Nat.min_zero]
      rfl
    rw [ed]
    exact RU.act (hP.fr (mI_n2 (by decide)) (mI_fn (by decide))) hs hd hn
theorem r_undoU {d : Nat} (h : RU M g n us) (hU : UI g n us) : EvQ (d + 1) 118 [.ref 400] M fun r M' => r = some (.int (I ((n : Int) - 1))) ∧ RU M' (actG (decide (0 < n)) (mixG g (us 0)) g) (n - 1) (if 0 < n then tailU us else us) ∧ RF [402, 407] [0, 23] M M' := by
  obtain ⟨hm, hP, hs, hd, hn⟩ := h
  refine (r_undo hm hP).mono ?_
  rintro r N ⟨rfl, hPN, h1, h2, h3, h4⟩
  have fr : RF [402, 407] [0, 23] M N := ⟨fun a q1 q2 => ⟨by rw [h2 a q2 (fun z => q1 (by simp [z]))], by rw [h4]⟩, fun k hk => h3 k (fun z => hk (by simp [z])) (fun z => hk (by simp [z])), by rw [h4]⟩
  refine ⟨rfl, ⟨?_, hPN, ?_, ?_, ?_⟩, fr⟩
  · rw [h1]
    funext k
    by_cases q : 0 < n
    · rw [if_pos q, decide_eq_true q]
      rfl
    · rw [if_neg q, decide_eq_false q]
      rfl
  all_goals
    by_cases q : 0 < n
    · rw [decide_eq_true q]
      first
        | exact hs.same mixG_o.s
        | exact (hU 0 q).1
        | exact (hU 0 q).2
    · rw [decide_eq_false q]
      first
        | exact hs
        | exact hd
        | exact hn
theorem r_tries {d : Nat} (hm : M.1 402 = fun k => I (g k)) : EvQ (d + 1) 119 [.ref 400] M fun r M' => r = none ∧ (∀ i, i < 33 → M'.1 408 i = I (g (89 + i))) ∧ (∀ a, a ≠ 408 → M'.1 a = M.1 a) ∧ M'.2 = M.2 := by
  apply e_R_tries
  intro At step
  refine loopU (P := fun i : Nat => ∀ N : Mm, (∀ j, j < i → N.1 408 j = I (g (89 + j))) → (∀ a, a ≠ 408 → N.1 a = M.1 a) → N.2 = M.2 → At 2 [.ref 400, .int (I (i : Int))] [] N) (n := 33) ?_ ?_ M (fun j hj => absurd hj (by omega)) (fun _ _ => rfl) rfl
  · intro N a1 a2 a3
    apply s_R_tries_2 step
    rw [I_lt (by omega) (by omega) (by omega) (by omega)]
    exact ⟨fun q => absurd q (by omega), fun _ => ⟨rfl, a1, a2, a3⟩⟩
  · intro i hi nx N a1 a2 a3
    apply s_R_tries_2 step
    rw [a2 402 (by decide), hm]
    simp (disch := omega) only [I_add, I_sub, I_mul, I_div, ixI, Int.toNat_add, Int.toNat_natCast, Int.reduceToNat, I_lt, I_ne, ite_I]
    refine ⟨fun _ => ⟨inRI (by omega) (by omega) (by omega), inRI (by omega) (by omega) (by omega), nx _ (fun j hj => ?_) (fun a ha => ?_) a3⟩, fun q => absurd q (by omega)⟩
    · by_cases z : j = i
      · subst z
        exact mI_eq
      · rw [mI_n2 z]
        exact a1 j (by omega)
    · rw [mI_fn ha]
      exact a2 a ha
theorem r_back {d : Nat} {u : Nat → Int} (hm : M.1 402 = fun k => I (u k)) (hb : ∀ i, i < 33 → M.1 408 i = I (g (89 + i))) (ho : SameO g u) : Ev (d + 1) 120 [.ref 400] M none (sS 402 M g) := by
  apply Ev.ofQ
  apply e_R_back
  intro At step
  have key := loopU (P := fun i : Nat => At 2 [.ref 400, .int (I (i : Int))] [] (sS 402 M (fun k => if 89 ≤ k ∧ k < 89 + i then g k else u k))) (n := 33) ?_ ?_
  · have e : (fun k => if 89 ≤ k ∧ k < 89 + 0 then g k else u k) = u := by
      funext k
      rw [if_neg (by omega)]
    rw [e, sS_self hm] at key
    exact key
  · apply s_R_back_2 step
    rw [I_lt (by omega) (by omega) (by omega) (by omega)]
    refine ⟨fun q => absurd q (by omega), fun _ => ⟨rfl, ?_⟩⟩
    congr 1
    funext k
    split
    · rfl
    · exact ho k (by omega)
  · intro i hi nx
    apply s_R_back_2 step
    rw [sS_ne (show 408 ≠ 402 by decide)]
    simp (disch := omega) only [I_add, I_sub, I_mul, I_div, ixI, Int.toNat_add, Int.toNat_natCast, Int.reduceToNat, I_lt, I_ne, ite_I, hb i hi, sS_put]
    refine ⟨fun _ => ⟨inRI (by omega) (by omega) (by omega), inRI (by omega) (by omega) (by omega), ?_⟩, fun q => absurd q (by omega)⟩
    have e : upf (fun k => if 89 ≤ k ∧ k < 89 + i then g k else u k) (89 + i) (g (89 + i)) = (fun k => if 89 ≤ k ∧ k < 89 + (i + 1) then g k else u k) := by
      funext k
      unfold upf
      by_cases z : k = 89 + i
      · subst z
        rw [if_pos rfl, if_pos (by omega)]
      · rw [if_neg z]
        dsimp only
        by_cases z2 : 89 ≤ k ∧ k < 89 + i
        · rw [if_pos z2, if_pos (by omega)]
        · rw [if_neg z2, if_neg (by omega)]
    rw [e]
    exact nx
theorem r_when {d : Nat} (h : RU M g n us) {w : Int} (hw : (-2147483648 ≤ w ∧ w < 2147483648)) : EvQ (d + 7) 141 [.ref 400, .int (I w)] M fun r M' => r = some (.int (I (whenA g w))) ∧ RU M' g n us ∧ RF [402, 408] [0] M M' := by
  have h1 := h.f0 (v := I 0)
  have f1 : RF [402, 408] [0] M (sI M 400 0 (I 0)) := RF.f0 (by simp)
  apply e_R_when
  intro At _
  generalize sI M 400 0 (I 0) = N at h1 f1 ⊢
  have h1' := h1
  obtain ⟨hm, hP, hs, hd, hn⟩ := h1
  have h0 := hs.1.2.1
  obtain ⟨-, -, -, -, -, -, -, -, -, -, hu, hf⟩ := hd.1
  refine ⟨_, _, r_isHouse hm hs hw, ?_⟩
  rw [bI0]
  refine ⟨fun q => ⟨by simp (disch := omega) only [whenA, if_neg], h1', f1⟩, fun q => ?_⟩
  obtain ⟨k, rfl⟩ := Nn (a := w) (by omega)
  have h3 := hd.2.2.2 k (by omega)
  have e100 : N.1 402 100 = I (((g 100).toNat : Nat) : Int) := by
    rw [hm]
    dsimp only
    rw [show ((g 100).toNat : Int) = g 100 by omega]
  rw [e100]
  refine ⟨_, _, v_bitOf (by omega) (by omega), ?_⟩
  rw [bI0]
  unfold whenA
  rw [Int.toNat_natCast]
  refine ⟨fun q2 => ?_, fun q2 => ⟨?_, h1', f1⟩⟩
  · have q0 : g (112 + k) = 0 := by
      by_cases z : g (112 + k) = 0
      · exact z
      · exact absurd (h3.2.2.1.mpr z) q2
    rw [if_pos ⟨Decidable.of_not_not q, q0⟩]
    refine q_non (r_tries hm) ?_
    rintro N2 ⟨b1, b2, b3⟩
    have hm2 : N2.1 402 = fun k => I (g k) := by rw [b2 402 (by decide), hm]
    refine ⟨_, _, r_goesOn (n := 48) hm2 hs hd hn (by omega), ?_⟩
    rw [I_add, sS_at]
    simp (disch := omega) only [I_add, I_sub, I_mul, I_div, ixI, Int.toNat_add, Int.toNat_natCast, Int.reduceToNat, I_lt, I_ne, ite_I]
    refine ⟨inRI (by omega) (by omega) (by omega), _, r_back (g := g) (u := hrsG g 48) sS_at (fun i hi => by rw [sS_ne (by decide)]; exact b1 i hi) (hrsG_o hs hd hn), by trivial, ?_, ?_⟩
    · rw [sS_sS]
      exact RU.act (hP.fr (by rw [b2 400 (by decide)]) (by rw [b2 407 (by decide)])) hs hd hn
    · rw [sS_sS]
      refine f1.trans (RF.trans (N := N2) ⟨fun a q1 q2 => ⟨by rw [b2 a (fun z => q1 (by simp [z]))], by rw [b3]⟩, fun k _ => by rw [b2 400 (by decide)], by rw [b3]⟩ (RF.ss (by simp) (by decide)))
  · rw [if_neg (fun z => h3.2.2.1.mp (Decidable.of_not_not q2) z.2)]
theorem r_last {d : Nat} (h : RU M g n us) : EvQ (d + 7) 142 [.ref 400] M fun r M' => r = some (.int (I (savedG (hrsG g 48)))) ∧ RU M' g n us ∧ RF [402, 408] [0] M M' := by
  have h1 := h.f0 (v := I 0)
  have f1 : RF [402, 408] [0] M (sI M 400 0 (I 0)) := RF.f0 (by simp)
  apply e_R_last
  intro At _
  generalize sI M 400 0 (I 0) = N at h1 f1 ⊢
  obtain ⟨hm, hP, hs, hd, hn⟩ := h1
  refine q_non (r_tries hm) ?_
  rintro N2 ⟨b1, b2, b3⟩
  have hm2 : N2.1 402 = fun k => I (g k) := by rw [b2 402 (by decide), hm]
  obtain ⟨o1, o2, o3⟩ := hrsG_ok (n := 48) hs hd hn
  refine ⟨_, _, r_goesOn (n := 48) hm2 hs hd hn (by omega), _, _, r_saved sS_at (hs.same o1) o2, _, r_back (g := g) (u := hrsG g 48) sS_at (fun i hi => by rw [sS_ne (by decide)]; exact b1 i hi) (hrsG_o hs hd hn), rfl, ?_, ?_⟩
  · rw [sS_sS]
    exact RU.act (hP.fr (by rw [b2 400 (by decide)]) (by rw [b2 407 (by decide)])) hs hd hn
  · rw [sS_sS]
    refine f1.trans (RF.trans (N := N2) ⟨fun a q1 q2 => ⟨by rw [b2 a (fun z => q1 (by simp [z]))], by rw [b3]⟩, fun k _ => by rw [b2 400 (by decide)], by rw [b3]⟩ (RF.ss (by simp) (by decide)))
theorem r_odds {d : Nat} (h : RU M g n us) {w m : Int} {x : Int32} (hw : (-2147483648 ≤ w ∧ w < 2147483648)) (hmm : (-2147483648 ≤ m ∧ m < 2147483648)) : EvQ (d + 7) 150 [.ref 400, .int (I w), .int (I m), .int x] M fun r M' => r = some (.int (I (oddsA g w m x))) ∧ RU M' g n us ∧ RF [402, 408] [0, 40] M M' := by
  have h1 := h.f0 (v := I 0)
  have f1 : RF [402, 408] [0, 40] M (sI M 400 0 (I 0)) := RF.f0 (by simp)
  apply e_R_odds
  intro At step
  generalize sI M 400 0 (I 0) = N at h1 f1 ⊢
  have h1' := h1
  obtain ⟨hm, hP, hs, hd, hn⟩ := h1
  have h0 := hs.1.2.1
  refine ⟨_, _, r_isHouse hm hs hw, ?_⟩
  rw [bI0]
  refine ⟨fun q => ⟨by simp (disch := omega) only [oddsA, if_neg], h1', f1⟩, fun q => ⟨_, _, v_isIn hmm (by omega) (by omega), ?_⟩⟩
  rw [bI0]
  refine ⟨fun q2 => ⟨by simp (disch := omega) only [oddsA, if_neg], h1', f1⟩, fun q2 => ?_⟩
  obtain ⟨k, rfl⟩ := Nn (a := w) (by omega)
  obtain ⟨j, rfl⟩ := Nn (a := m) (by omega)
  have hA : oddsA g k j x = oddsL g k x j := by
    unfold oddsA
    rw [if_pos ⟨Decidable.of_not_not q, Decidable.of_not_not q2⟩, Int.toNat_natCast, Int.toNat_natCast]
  rw [hA] at step
  refine q_non (r_tries hm) ?_
  rintro N2 ⟨b1, b2, b3⟩
  have hm2 : N2.1 402 = fun k => I (g k) := by rw [b2 402 (by decide), hm]
  have f2 : RF [402, 408] [0, 40] M N2 := f1.trans ⟨fun a q1 q2 => ⟨by rw [b2 a (fun z => q1 (by simp [z]))], by rw [b3]⟩, fun k _ => by rw [b2 400 (by decide)], by rw [b3]⟩
  have hP2 : PR N2 n us := hP.fr (by rw [b2 400 (by decide)]) (by rw [b2 407 (by decide)])
  refine loopU (P := fun i : Nat => ∀ O : Mm, (O.1 402 = fun k => I (g k)) → (∀ i, i < 33 → O.1 408 i = I (g (89 + i))) → PR O n us → RF [402, 408] [0, 40] M O → At 35 [.ref 400, .int (I k), .int (I j), .int x, .int (I (oddsL g k x i)), .int (I (i : Int))] [] O) (n := j) ?_ ?_ N2 hm2 b1 hP2 f2
  · intro O a1 a2 a3 a4
    apply s_R_odds_35 step
    rw [I_lt (by omega) (by omega) (by omega) (by omega)]
    exact ⟨fun q => absurd q (by omega), fun _ => ⟨rfl, ⟨a1, a3, hs, hd, hn⟩, a4⟩⟩
  · intro i hi nx O a1 a2 a3 a4
    apply s_R_odds_35 step
    rw [I_lt (by omega) (by omega) (by omega) (by omega)]
    refine ⟨fun _ => ⟨_, _, r_draws (n := 24) a1 hs hd hn (by omega), _, r_back (g := g) (u := drwG g (x + I i) 24) sS_at (fun i hi => by rw [sS_ne (by decide), mI_fn (by decide)]; exact a2 i hi) (drwG_o hs hd hn), ?_⟩, fun q => absurd (by omega) q⟩
    obtain ⟨o1, o2, o3⟩ := drwG_ok (n := 24) (x := x + I i) hs hd hn
    have h3 := o2.2.2.2 k (by omega)
    have hf := o2.1.2.2.2.2.2.2.2.2.2.2.2
    rw [sS_sS, sS_at]
    dsimp only
    rw [show I (drwG g (x + I i) 24 100) = I (((drwG g (x + I i) 24 100).toNat : Nat) : Int) by rw [show ((drwG g (x + I i) 24 100).toNat : Int) = drwG g (x + I i) 24 100 by omega], I_and_1 (by omega) (by omega), I_add, I_add]
    have nx := nx (sS 402 (sI O 400 40 (sedN g (x + I i) 24)) g) sS_at (fun i hi => by rw [sS_ne (by decide), mI_fn (by decide)]; exact a2 i hi) (a3.fr (by rw [sS_ne (by decide), mI_n2 (by decide)]) (by rw [sS_ne (by decide), mI_fn (by decide)])) (a4.trans ((RF.f (by simp)).trans (RF.ss (by simp) (by decide))))
    unfold oddsL at nx
    have hbt := bt_lt (drwG g (x + I i) 24 100).toNat k
    by_cases z : drwG g (x + I i) 24 (112 + k) = 0
    · rw [if_pos z] at nx
      have e0 : bt (drwG g (x + I i) 24 100).toNat k = 0 := by
        have : ¬ bt (drwG g (x + I i) 24 100).toNat k = 1 := fun y => h3.2.2.1.mp y z
        omega
      rw [e0]
      exact nx
    · rw [if_neg z] at nx
      rw [h3.2.2.1.mpr z]
      exact nx
end RAC
