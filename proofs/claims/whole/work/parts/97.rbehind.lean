/-! ===== a sentence's text: what comes behind a ONE, the reference ===== -/
section RBH
variable {M : Mm} {b : Nat → Nat} {n L p t0 a b' k dp : Nat} {st : SS} {S : Nat → Int}
theorem RW_0 (h : RW M S t0 0 0 0 st dp) : RCd M st st.2.1 := by
  obtain ⟨⟨kc, hc, p1, -⟩, -⟩ := h
  have e : kc = st.2.1 := by omega
  rw [← e]
  exact hc
theorem RT_k {N : Mm} {T : List Nat} (h : RT M b n L p) (hF : RF [404] T M N) (hT : ∀ k, k = 3 ∨ k = 4 ∨ k = 5 ∨ k = 11 ∨ k = 12 ∨ k = 14 ∨ k = 15 → k ∉ T) (h2 : N.2 = M.2) : RT N b n L p := RT_fr h (fun k hk => hF.2.1 k (hT k hk)) (hF.1 401 (by decide) (by decide)).1 (by rw [h2]) (by rw [h2])
theorem noT1 : ∀ k, k = 3 ∨ k = 4 ∨ k = 5 ∨ k = 11 ∨ k = 12 ∨ k = 14 ∨ k = 15 → k ∉ [45, 47, 48] := fun k hk => by rcases hk with rfl | rfl | rfl | rfl | rfl | rfl | rfl <;> decide
theorem noT2 : ∀ k, k = 3 ∨ k = 4 ∨ k = 5 ∨ k = 11 ∨ k = 12 ∨ k = 14 ∨ k = 15 → k ∉ [45, 47] := fun k hk => by rcases hk with rfl | rfl | rfl | rfl | rfl | rfl | rfl <;> decide
theorem topN_m {P R : Int → Prop} (h : topN S t0 P) (hp : ∀ x, P x → R x) : topN S t0 R := by
  rcases h with h | h
  · exact Or.inl h
  · exact Or.inr (hp _ h)
/-- a joining word is pushed -/
theorem r_push {d : Nat} {V : Int} {N : Mm} (hW : RW M S t0 0 0 0 st dp) (ht : RT M b n L p) (hF : RF LSn FSn N M) : inR (M.1 400 47) 45 ∧ ∃ (X : Mm), (Ev (d + 2) 68 [.ref 400] (sI (sI (sI M 415 (M.1 400 47).toNatClampNeg (I V)) 400 47 ((M.1 400 47) + (I 1))) 400 49 (I 0)) none X ∧ (RV X (upf S t0 V) (t0 + 1) st dp ∧ RT X b n L (tkN b n L p) ∧ RF LSn FSn N X)) := by
  have hc := RW_0 hW
  obtain ⟨-, ⟨s1, s2, -, -, -⟩, w46, w48, wt, wsp, wd⟩ := hW
  have h20 := wsp.2.1
  have e47 : M.1 400 47 = I (t0 : Int) := s1
  rw [e47, I_add, ixI (by omega) (by omega), Int.toNat_natCast]
  refine ⟨inRI (by omega) (by omega) (by omega), ?_⟩
  have t' : RT (sI (sI (sI M 415 t0 (I V)) 400 47 (I ((t0 : Int) + 1))) 400 49 (I 0)) b n L p := RT_fr ht (fun k hk => by rw [mI_n2 (by omega), mI_n2 (by omega), mI_n1 (by decide)]) (by rw [mI_fn (by decide), mI_fn (by decide), mI_fn (by decide)]) rfl rfl
  refine q_non (r_nextT t') ?_
  rintro X ⟨f, t⟩
  have x4 : ∀ j, j ∉ FJ → X.1 400 j = (sI (sI (sI M 415 t0 (I V)) 400 47 (I ((t0 : Int) + 1))) 400 49 (I 0)).1 400 j := fun j hj => f.2.1 j hj
  have xA : ∀ y, y ≠ 400 → X.1 y = (sI (sI (sI M 415 t0 (I V)) 400 47 (I ((t0 : Int) + 1))) 400 49 (I 0)).1 y := fun y hy => (f.1 y (by simp) hy).1
  refine ⟨⟨⟨?_, fun i hi => ?_⟩, ⟨?_, fun i hi => ?_, fun y => absurd y (by decide), fun y => absurd y (by decide), fun j hj => absurd hj (by omega)⟩, ?_, ?_, ?_, by omega, wsp⟩, t, (hF.trans (RF.u2 (RF.u2 (RF.st (by decide) (by decide)) (by decide)) (by decide))).trans (f.mono (by decide) (by decide))⟩
  · rw [x4 45 (by decide), mI_n2 (by decide), mI_n2 (by decide), mI_n1 (by decide)]
    exact hc.1
  · rw [xA 404 (by decide), mI_fn (by decide), mI_fn (by decide), mI_fn (by decide)]
    exact hc.2 i hi
  · rw [x4 47 (by decide), mI_n2 (by decide), mI_eq]
    rfl
  · rw [xA 415 (by decide), mI_fn (by decide), mI_fn (by decide)]
    by_cases c : i = t0
    · rw [c, mI_eq, upf_eq]
    · rw [mI_n2 c, upf_ne c]
      exact s2 i (by omega)
  · rw [x4 46 (by decide), mI_n2 (by decide), mI_n2 (by decide), mI_n1 (by decide)]
    exact w46
  · rw [x4 48 (by decide), mI_n2 (by decide), mI_n2 (by decide), mI_n1 (by decide)]
    exact w48
  · rw [x4 49 (by decide), mI_eq]
theorem r_behindAnd {d : Nat} (h : RT M b n L p) (hw : tkW b n L p = 14) (hb : topN S t0 fun x => x = 22 ∨ x = 23) (hW : RW M S t0 0 b' k st dp) : EvQ (d + 3) 161 [.ref 400] M fun r N => ∃ v, r = some (.int v) ∧ (v = I 1 ∧ RV N (upf S t0 21) (t0 + 1) st dp ∧ RT N b n L (tkN b n L p) ∧ RF LSn FSn M N) := by
  have wA : ∀ {d : Nat} {N : Mm}, RT N b n L p → Ev (d + 1) 70 [.ref 400, .long (Int64.ofNat 6385252)] N (some (.int (I 1))) N := fun {d N} t => by
    have := r_isWord (d := d) (w := 14) (x := Int64.ofNat 6385252) t (by decide) (by decide)
    rw [if_pos hw] at this
    exact this
  apply e_R_behind
  intro At _
  refine q_non (r_nots (topN_m hb fun x y => Or.inr y) k M hW) ?_
  rintro N1 ⟨w1, f1, n1⟩
  have t1 := RT_k h f1 noT1 n1
  refine ⟨_, _, wA t1, fun y => absurd y (by decide), fun _ => ⟨_, _, wA t1, fun y => absurd y (by decide), fun _ => ?_⟩⟩
  refine q_non (r_joinsA hb w1) ?_
  rintro N2 ⟨w2, f2, n2⟩
  have t2 := RT_k t1 f2 noT2 n2
  have F2 : RF LSn FSn M N2 := (f1.mono (by decide) (by decide)).trans (f2.mono (by decide) (by decide))
  refine ⟨_, _, wA t2, fun y => absurd y (by decide), fun _ => ?_⟩
  obtain ⟨p1, X, p2, p3, p4, p5⟩ := r_push (d := d) (V := 21) w2 t2 F2
  exact ⟨p1, X, p2, _, rfl, rfl, p3, p4, p5⟩
theorem r_behindOr {d : Nat} (h : RT M b n L p) (hw : tkW b n L p = 13) (hb : topN S t0 fun x => x = 23) (hW : RW M S t0 a b' k st dp) : EvQ (d + 3) 161 [.ref 400] M fun r N => ∃ v, r = some (.int v) ∧ (v = I 1 ∧ RV N (upf S t0 22) (t0 + 1) st dp ∧ RT N b n L (tkN b n L p) ∧ RF LSn FSn M N) := by
  have wA : ∀ {d : Nat} {N : Mm}, RT N b n L p → Ev (d + 1) 70 [.ref 400, .long (Int64.ofNat 6385252)] N (some (.int (I 0))) N := fun {d N} t => by
    have := r_isWord (d := d) (w := 14) (x := Int64.ofNat 6385252) t (by decide) (by decide)
    rw [if_neg (by rw [hw]; decide)] at this
    exact this
  have wO : ∀ {d : Nat} {N : Mm}, RT N b n L p → Ev (d + 1) 70 [.ref 400, .long (Int64.ofNat 28530)] N (some (.int (I 1))) N := fun {d N} t => by
    have := r_isWord (d := d) (w := 13) (x := Int64.ofNat 28530) t (by decide) (by decide)
    rw [if_pos hw] at this
    exact this
  apply e_R_behind
  intro At _
  refine q_non (r_nots (topN_m hb fun x y => Or.inr (Or.inr y)) k M hW) ?_
  rintro N1 ⟨w1, f1, n1⟩
  have t1 := RT_k h f1 noT1 n1
  refine ⟨_, _, wA t1, fun _ => ⟨_, _, wO t1, fun y => absurd y (by decide), fun _ => ⟨_, _, wA t1, fun _ => ?_, fun y => absurd rfl y⟩⟩, fun y => absurd rfl y⟩
  refine q_non (r_joinsO hb w1) ?_
  rintro N2 ⟨w2, f2, n2⟩
  have t2 := RT_k t1 f2 noT2 n2
  have F2 : RF LSn FSn M N2 := (f1.mono (by decide) (by decide)).trans (f2.mono (by decide) (by decide))
  refine ⟨_, _, wA t2, fun _ => ?_, fun y => absurd rfl y⟩
  obtain ⟨p1, X, p2, p3, p4, p5⟩ := r_push (d := d) (V := 22) w2 t2 F2
  exact ⟨p1, X, p2, _, rfl, rfl, p3, p4, p5⟩
theorem r_behindEnd {d : Nat} (h : RT M b n L p) (hw : tkW b n L p ≠ 13 ∧ tkW b n L p ≠ 14) (hb : topN S t0 fun x => x = 23) (hW : RW M S t0 a b' k st dp) (h49 : M.1 400 49 = I 1) (hdp : 1 ≤ dp) : EvQ (d + 3) 161 [.ref 400] M fun r N => ∃ v, r = some (.int v) ∧ (RF LSn FSn M N ∧ (t0 = 0 → v = I 0 ∧ rFl N (1, tkS b n L p)) ∧ (0 < t0 → RBo (pSign b n L 41 p) v N fun q => RW N S (t0 - 1) 0 0 0 st (dp - 1) ∧ N.1 400 49 = I 1 ∧ RT N b n L q)) := by
  have wA : ∀ {d : Nat} {N : Mm}, RT N b n L p → Ev (d + 1) 70 [.ref 400, .long (Int64.ofNat 6385252)] N (some (.int (I 0))) N := fun {d N} t => by
    have := r_isWord (d := d) (w := 14) (x := Int64.ofNat 6385252) t (by decide) (by decide)
    rw [if_neg hw.2] at this
    exact this
  have wO : ∀ {d : Nat} {N : Mm}, RT N b n L p → Ev (d + 1) 70 [.ref 400, .long (Int64.ofNat 28530)] N (some (.int (I 0))) N := fun {d N} t => by
    have := r_isWord (d := d) (w := 13) (x := Int64.ofNat 28530) t (by decide) (by decide)
    rw [if_neg hw.1] at this
    exact this
  apply e_R_behind
  intro At _
  refine q_non (r_nots (topN_m hb fun x y => Or.inr (Or.inr y)) k M hW) ?_
  rintro N1 ⟨w1, f1, n1⟩
  have t1 := RT_k h f1 noT1 n1
  refine ⟨_, _, wA t1, fun _ => ⟨_, _, wO t1, fun _ => ?_, fun y => absurd rfl y⟩, fun y => absurd rfl y⟩
  refine q_non (r_joinsO hb w1) ?_
  rintro N2 ⟨w2, f2, n2⟩
  have t2 := RT_k t1 f2 noT2 n2
  have F2 : RF LSn FSn M N2 := (f1.mono (by decide) (by decide)).trans (f2.mono (by decide) (by decide))
  have g49 : N2.1 400 49 = I 1 := by rw [f2.2.1 49 (by decide), f1.2.1 49 (by decide)]; exact h49
  have hc := RW_0 w2
  obtain ⟨-, ⟨s1, s2, -, -, -⟩, w46, w48, wt, wsp, wd⟩ := id w2
  have h20 := wsp.2.1
  have e47 : N2.1 400 47 = I (t0 : Int) := s1
  have er : ¬ (tkK b n L p = 4 ∧ tkV b n p = 41) → pSign b n L 41 p = .error (1, tkS b n L p) := fun y => by
    unfold pSign
    rw [if_neg y]
  refine ⟨_, _, r_isSign t2 (by decide), fun z => ?_, fun z => ?_⟩
  · rw [bI0] at z
    exact r_badT t2 (by decide) fun N hF hL hN => ⟨Or.inl rfl, _, rfl, F2.trans (hF.mono (by decide) (by decide)), fun _ => ⟨rfl, hN⟩, fun _ => RBe (er z) rfl hN⟩
  · have z2 : tkK b n L p = 4 ∧ tkV b n p = 41 := Classical.byContradiction fun y => z (by rw [bI0]; exact y)
    rw [e47, w48, I_ne (by omega) (by omega) (by omega) (by omega), I_sub, I_sub]
    refine ⟨fun q => ?_, fun q => ?_⟩
    · exact r_badT t2 (by decide) fun N hF hL hN => ⟨Or.inl rfl, _, rfl, F2.trans (hF.mono (by decide) (by decide)), fun _ => ⟨rfl, hN⟩, fun y => absurd y (by omega)⟩
    · have t3 : RT (sI (sI N2 400 47 (I ((t0 : Int) - 1))) 400 48 (I (((dp + 0 : Nat) : Int) - 1))) b n L p := RT_fr t2 (fun k hk => by rw [mI_n2 (by omega), mI_n2 (by omega)]) (by rw [mI_fn (by decide), mI_fn (by decide)]) rfl rfl
      refine q_non (r_nextT t3) ?_
      rintro X ⟨f, t⟩
      have x4 : ∀ j, j ∉ FJ → X.1 400 j = (sI (sI N2 400 47 (I ((t0 : Int) - 1))) 400 48 (I (((dp + 0 : Nat) : Int) - 1))).1 400 j := fun j hj => f.2.1 j hj
      have xA : ∀ y, y ≠ 400 → X.1 y = N2.1 y := fun y hy => by rw [(f.1 y (by simp) hy).1, mI_fn hy, mI_fn hy]
      refine ⟨_, rfl, (F2.trans (RF.u2 (RF.f (by decide)) (by decide))).trans (f.mono (by decide) (by decide)), fun y => absurd y (by omega), fun _ => RBk (x := tkN b n L p) (by unfold pSign; rw [if_pos z2]) rfl ⟨⟨⟨st.2.1, ⟨?_, fun i hi => ?_⟩, rfl, fun j hj => absurd hj (by omega), fun y => absurd y (by decide), fun y => absurd y (by decide), by decide, by decide⟩, ⟨?_, fun i hi => ?_, fun y => absurd y (by decide), fun y => absurd y (by decide), fun j hj => absurd hj (by omega)⟩, ?_, ?_, by omega, wsp, by omega⟩, ?_, t⟩⟩
      · rw [x4 45 (by decide), mI_n2 (by decide), mI_n2 (by decide)]
        exact hc.1
      · rw [xA 404 (by decide)]
        exact hc.2 i hi
      · rw [x4 47 (by decide), mI_n2 (by decide), mI_eq]
        exact congrArg I (by omega)
      · rw [xA 415 (by decide)]
        exact s2 i (by omega)
      · rw [x4 46 (by decide), mI_n2 (by decide), mI_n2 (by decide)]
        exact w46
      · rw [x4 48 (by decide), mI_eq]
        exact congrArg I (by omega)
      · rw [x4 49 (by decide), mI_n2 (by decide), mI_n2 (by decide)]
        exact g49
end RBH
