/-! ===== book() and told(): the reference ===== -/
def RTd (M : Mm) (tk : Nat) (tv : Nat → Int) : Prop := M.1 400 43 = I (tk : Int) ∧ (tk = 1 → ∀ i, i < 4 → M.1 414 i = I (tv i))
abbrev LRB : List Nat := [402, 404, 407, 408, 414]
abbrev FRB : List Nat := [0, 2, 3, 4, 5, 11, 12, 13, 14, 15, 16, 18, 23, 41, 43]
theorem why_0 {z : Nat → Int} {l : BL} (c : l.1 = 0) : whyG z l = (if z 5 < l.2.1 + l.2.2.1 then 9 else if z 93 = l.2.1 ∧ z 94 = l.2.2.1 ∧ z 95 = l.2.2.2 then 1 else 0) ∧ livG z l = postsG z l.2.1 l.2.2.1 l.2.2.2 := ⟨if_pos c, if_pos c⟩
theorem why_3 {z : Nat → Int} {l : BL} (c : l.1 = 3) : whyG z l = (if 48 - z 89 < l.2.1 then 31 else 0) ∧ livG z l = hrsG z l.2.1.toNat := by
  unfold whyG livG
  rw [if_neg (show ¬ l.1 = 0 by omega), if_pos c, if_neg (show ¬ l.1 = 0 by omega), if_pos c]
  exact ⟨rfl, rfl⟩
theorem why_1 {z : Nat → Int} {l : BL} (c : l.1 = 1) : whyG z l = (if bt (z 98).toNat l.2.1.toNat = 1 then 11 else 0) ∧ livG z l = quitsG z l.2.1.toNat := by
  unfold whyG livG
  rw [if_neg (show ¬ l.1 = 0 by omega), if_neg (show ¬ l.1 = 3 by omega), if_pos c, if_neg (show ¬ l.1 = 0 by omega), if_neg (show ¬ l.1 = 3 by omega), if_pos c]
  exact ⟨rfl, rfl⟩
theorem why_2 {z : Nat → Int} {l : BL} (c : l.1 = 2) : whyG z l = (if z (112 + l.2.1.toNat) = 0 then (if bt (z 99).toNat l.2.1.toNat = 1 then 22 else 0) else 21) ∧ livG z l = upsG z l.2.1.toNat := by
  unfold whyG livG
  rw [if_neg (show ¬ l.1 = 0 by omega), if_neg (show ¬ l.1 = 3 by omega), if_neg (show ¬ l.1 = 1 by omega), if_neg (show ¬ l.1 = 0 by omega), if_neg (show ¬ l.1 = 3 by omega), if_neg (show ¬ l.1 = 1 by omega)]
  exact ⟨rfl, rfl⟩
section RDO
variable {M : Mm} {b : Nat → Nat} {n m k : Nat} {g z : Nat → Int} {nm : Nat → List Nat} {bk : Nat → BL} {us : Nat → Nat → Int}
theorem r_told {d tk : Nat} {tv : Nat → Int} (h : RTd M tk tv) (ht : tk ≤ 1) {w : Int} (hw : (-2147483648 ≤ w ∧ w < 2147483648)) : EvQ (d + 2) 155 [.ref 400, .int (I w)] M fun r N => r = some (.int (I (toldA tk tv w))) ∧ N = sI M 400 0 (I 0) := by
  obtain ⟨h1, h2⟩ := h
  apply e_R_told
  intro At _
  unfold toldA
  rw [h1, I_ne (by omega) (by omega) (by omega) (by omega)]
  refine ⟨fun q => ?_, fun q => ⟨_, _, v_isIn hw (by omega) (by omega), fun c => ?_, fun c => ?_⟩⟩
  · rw [if_neg (by omega)]
    exact ⟨rfl, rfl⟩
  · rw [bI0] at c
    rw [if_neg (by omega)]
    exact ⟨rfl, rfl⟩
  · have c2 : 0 ≤ w ∧ w ≤ 3 := Classical.byContradiction fun y => c (by rw [bI0]; exact y)
    obtain ⟨i, rfl⟩ := Nn c2.1
    rw [if_pos (by omega), ixI (by omega) (by omega), Int.toNat_natCast, mI_fn (by decide), h2 (by omega) i (by omega)]
    exact ⟨inRI (by omega) (by omega) (by omega), rfl, rfl⟩
theorem r_posted2 {d : Nat} (hm : M.1 402 = fun k => I (z k)) (hd : RGd z) (hs : RGs z) {f c w : Int} (hf : (-2147483648 ≤ f ∧ f < 2147483648)) (hc2 : (-2147483648 ≤ c ∧ c < 2147483648)) (hw : (-2147483648 ≤ w ∧ w < 2147483648)) : Ev (d + 1) 104 [.ref 400, .int (I f), .int (I c), .int (I w)] M (some (.int (I (if z 93 = f ∧ z 94 = c ∧ z 95 = w then 1 else 0)))) M := by
  have h1 := hd.1
  have h2 := hs.1
  have e : ∀ j, M.1 402 j = I (z j) := fun j => by rw [hm]
  apply Ev.ofQ
  apply e_R_isPosted
  intro At _
  rw [e 93, e 94, e 95, I_ne (by omega) (by omega) (by omega) (by omega), I_ne (by omega) (by omega) (by omega) (by omega), I_ne (by omega) (by omega) (by omega) (by omega)]
  refine ⟨fun q => ⟨fun q2 => ⟨fun q3 => ?_, fun q3 => ?_⟩, fun q2 => ?_⟩, fun q => ?_⟩
  · rw [if_pos ⟨q, q2, q3⟩]
    exact ⟨rfl, rfl⟩
  · rw [if_neg fun y => q3 y.2.2]
    exact ⟨rfl, rfl⟩
  · rw [if_neg fun y => q2 y.2.1]
    exact ⟨rfl, rfl⟩
  · rw [if_neg fun y => q y.1]
    exact ⟨rfl, rfl⟩
theorem r_does {d : Nat} {l : BL} {x y : Int32} (hm : M.1 402 = fun k => I (z k)) (hs : RGs z) (hd : RGd z) (hn : RN z) (hl : bkOk z l) (hx : l.1 = 0 → x = I l.2.2.1 ∧ y = I l.2.2.2) : Ev (d + 6) 153 [.ref 400, .int (I (l.1 : Int)), .int (I l.2.1), .int x, .int y] M (some (.int (I (whyG z l)))) (if whyG z l = 0 then sS 402 M (livG z l) else M) := by
  have h1 := hs.1
  have h2 := hd.1
  have e : ∀ j, M.1 402 j = I (z j) := fun j => by rw [hm]
  apply Ev.ofQ
  apply e_R_does
  intro At _
  rcases hl with ⟨c, q1, q2, q3⟩ | ⟨c, q1, q2⟩ | ⟨c, q1, q2⟩ | ⟨c, q1, q2⟩
  · obtain ⟨rfl, rfl⟩ := hx c
    rw [(why_0 c).1, (why_0 c).2, c, e 5, I_add, I_lt (by omega) (by omega) (by omega) (by omega)]
    refine ⟨fun _ => ⟨fun q => ?_, fun q => ⟨_, _, r_posted2 hm hd hs (by omega) (by omega) (by omega), fun q4 => ⟨_, r_posts hm, ?_⟩, fun q4 => ?_⟩⟩, fun y => absurd y (by decide), fun y => absurd y (by decide), fun y => absurd rfl y.2.2.1⟩
    · rw [if_pos q]
      exact ⟨rfl, rfl⟩
    · rw [bI0] at q4
      rw [if_neg q, if_neg q4]
      exact ⟨rfl, rfl⟩
    · rw [bI0] at q4
      rw [if_neg q, if_pos (Decidable.of_not_not q4)]
      exact ⟨rfl, rfl⟩
  · obtain ⟨w, hw⟩ := Nn q1
    have hq := h2.2.2.2.2.2.2.2.2.2.1
    obtain ⟨u, hu⟩ := Nn hq.1
    have hb := bt_lt u w
    rw [(why_1 c).1, (why_1 c).2, c, hw, Int.toNat_natCast, e 98, hu, Int.toNat_natCast]
    refine ⟨fun y => absurd y (by decide), fun _ => ⟨_, _, v_bitOf (by omega) (by omega), fun q4 => ⟨_, r_quits hm hd (w := w) (by omega), ?_⟩, fun q4 => ?_⟩, fun y => absurd y (by decide), fun y => absurd rfl y.2.1⟩
    · rw [bI0] at q4
      rw [if_neg q4]
      exact ⟨rfl, rfl⟩
    · rw [bI0] at q4
      rw [if_pos (Decidable.of_not_not q4)]
      exact ⟨rfl, rfl⟩
  · obtain ⟨w, hw⟩ := Nn q1
    rw [(why_2 c).1, (why_2 c).2, c, hw, Int.toNat_natCast]
    refine ⟨fun y => absurd y (by decide), fun y => absurd y (by decide), fun _ => ⟨_, _, r_whyUp hm hd (k := w) (by omega), ?_⟩, fun y => absurd rfl y.1⟩
    by_cases c1 : z (112 + w) = 0
    · rw [if_pos c1, if_pos c1]
      by_cases c2 : bt (z 99).toNat w = 1
      · rw [if_pos c2, if_pos c2]
        exact ⟨fun _ => ⟨rfl, rfl⟩, fun q => absurd (by decide) q⟩
      · rw [if_neg c2, if_neg c2]
        exact ⟨fun q => absurd q (by decide), fun _ => ⟨_, r_carriesUp hm hd (k := w) (by omega), rfl, rfl⟩⟩
    · rw [if_neg c1, if_neg c1]
      exact ⟨fun _ => ⟨rfl, rfl⟩, fun q => absurd (by decide) q⟩
  · obtain ⟨w, hw⟩ := Nn (show 0 ≤ l.2.1 by omega)
    rw [(why_3 c).1, (why_3 c).2, c, hw, Int.toNat_natCast, e 89, I_add, I_lt (by omega) (by omega) (by omega) (by omega)]
    refine ⟨fun y => absurd y (by decide), fun y => absurd y (by decide), fun y => absurd y (by decide), fun _ => ⟨fun q => ?_, fun q => ⟨_, _, r_goesOn hm hs hd hn (n := w) (by omega), ?_⟩⟩⟩
    · rw [if_pos (by omega)]
      exact ⟨rfl, rfl⟩
    · rw [if_neg (by omega)]
      exact ⟨rfl, rfl⟩
end RDO
