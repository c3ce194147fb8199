/-! ===== a street's text: the reference's lines ===== -/
abbrev FL : List Nat := [4, 11, 12, 13, 14, 15, 16, 18, 20]
def RFS (M N : Mm) : Prop := RF [403, 405] FL M N ∧ ∀ k, k < 21 → N.2.1 405 k = M.2.1 405 k
theorem RFS_refl {M : Mm} : RFS M M := ⟨RF.refl, fun _ _ => rfl⟩
theorem RFS_trans {M N O : Mm} (h : RFS M N) (k : RFS N O) : RFS M O := ⟨h.1.trans k.1, fun j hj => (k.2 j hj).trans (h.2 j hj)⟩
theorem RFS_n {M N O : Mm} (h : RFS M N) (k : RF [] FJ N O) : RFS M O := RFS_trans h ⟨k.mono (by decide) (by decide), fun j _ => by rw [(k.1 405 (by decide) (by decide)).2]⟩
theorem RFS_p {M N O : Mm} (h : RFS M N) (k : RF [403] FG N O) (k2 : O.2.1 405 = N.2.1 405) : RFS M O := RFS_trans h ⟨k.mono (by decide) (by decide), fun j _ => by rw [k2]⟩
theorem RFS_b {M N O : Mm} (h : RFS M N) (k : RF [] FG N O) (k2 : O.2.1 405 = N.2.1 405) : RFS M O := RFS_trans h ⟨k.mono (by decide) (by decide), fun j _ => by rw [k2]⟩
theorem RFS_i {M N : Mm} {k : Nat} {v : Int32} (h : RFS M N) : RFS M (sI N 403 k v) := RFS_trans h ⟨RF.st (by decide) (by decide), fun _ _ => rfl⟩
theorem RFS_f {M N : Mm} {k : Nat} {v : Int32} (h : RFS M N) (hk : k ∈ FL) : RFS M (sI N 400 k v) := RFS_trans h ⟨RF.f hk, fun _ _ => rfl⟩
/-- the street that is being read -/
def RI (M : Mm) (g : Nat → Int) (nm : Nat → List Nat) (on : Nat) : Prop := (∀ i, i < 89 → M.1 403 i = I (g i)) ∧ RNm M 405 21 g nm ∧ M.1 400 20 = I on
theorem RI_RN2 {M : Mm} {g : Nat → Int} {nm : Nat → List Nat} {on : Nat} (h : RI M g nm on) : RN2 M g nm := ⟨h.1 0 (by decide), h.1 1 (by decide), h.1 2 (by decide), h.2.1⟩
theorem RI_fr {M N : Mm} {g : Nat → Int} {nm : Nat → List Nat} {on : Nat} (h : RI M g nm on) (h1 : N.1 403 = M.1 403) (h2 : N.2.1 405 = M.2.1 405) (h3 : N.1 400 20 = M.1 400 20) : RI N g nm on := by
  unfold RI RNm at h ⊢
  rw [h1, h2, h3]
  exact h
theorem RI_n {M N : Mm} {g : Nat → Int} {nm : Nat → List Nat} {on : Nat} (h : RI M g nm on) (k : RF [] FJ M N) : RI N g nm on := RI_fr h (k.1 403 (by decide) (by decide)).1 (k.1 405 (by decide) (by decide)).2 (k.2.1 20 (by decide))
theorem mI_up {M : Mm} {a k : Nat} {v : Int32} : (sI M a k v).1 a = upf (M.1 a) k v := up2_eq
theorem upfI {F : Nat → Int32} {f : Nat → Int} (h : ∀ i, i < 89 → F i = I (f i)) (k : Nat) (v : Int) : ∀ i, i < 89 → upf F k (I v) i = I (upf f k v i) := fun i hi => by
  by_cases e : i = k
  · subst e
    rw [upf_eq, upf_eq]
  · rw [upf_ne e, upf_ne e]
    exact h i hi
section RLN
variable {M : Mm} {b : Nat → Nat} {n L p on : Nat} {g : Nat → Int} {nm : Nat → List Nat}
theorem RNm_wall {N : Mm} {g' : Nat → Int} {l : List Nat} {k : Nat} (hs : RGs g) (h : RNm M 405 21 g nm) (hk : g 0 = k) (hc : k < 5) (e0 : g' 0 = g 0 + 1) (e1 : g' 1 = g 1) (e2 : g' 2 = g 2) (h2 : N.2.1 405 = upf (M.2.1 405) (21 + k) (J (nmR l))) : RNm N 405 21 g' (upf nm k l) := by
  have hs1 := hs.1
  obtain ⟨m1, m2, m3⟩ := h
  refine ⟨fun w hw => ?_, fun w hw => ?_, fun w hw => ?_⟩
  · by_cases c : w = k
    · subst c
      rw [h2, show 21 + w = 21 + w by omega, upf_eq, upf_eq]
    · rw [h2, upf_ne (by omega), upf_ne (by omega)]
      exact m1 w (by omega)
  · rw [h2, upf_ne (by omega), upf_ne (by omega)]
    exact m2 w (by omega)
  · rw [h2, upf_ne (by omega), upf_ne (by omega)]
    exact m3 w (by omega)
theorem RNm_house {N : Mm} {g' : Nat → Int} {l : List Nat} {k : Nat} (hs : RGs g) (h : RNm M 405 21 g nm) (hk : g 1 = k) (hc : k < 10) (e0 : g' 0 = g 0) (e1 : g' 1 = g 1 + 1) (e2 : g' 2 = g 2) (h2 : N.2.1 405 = upf (M.2.1 405) (26 + k) (J (nmR l))) : RNm N 405 21 g' (upf nm (5 + k) l) := by
  have hs1 := hs.1
  obtain ⟨m1, m2, m3⟩ := h
  refine ⟨fun w hw => ?_, fun w hw => ?_, fun w hw => ?_⟩
  · rw [h2, upf_ne (by omega), upf_ne (by omega)]
    exact m1 w (by omega)
  · by_cases c : w = k
    · subst c
      rw [h2, show 21 + (5 + w) = 26 + w by omega, upf_eq, upf_eq]
    · rw [h2, upf_ne (by omega), upf_ne (by omega)]
      exact m2 w (by omega)
  · rw [h2, upf_ne (by omega), upf_ne (by omega)]
    exact m3 w (by omega)
theorem RNm_drain {N : Mm} {g' : Nat → Int} {l : List Nat} {k : Nat} (hs : RGs g) (h : RNm M 405 21 g nm) (hk : g 2 = k) (hc : k < 6) (e0 : g' 0 = g 0) (e1 : g' 1 = g 1) (e2 : g' 2 = g 2 + 1) (h2 : N.2.1 405 = upf (M.2.1 405) (36 + k) (J (nmR l))) : RNm N 405 21 g' (upf nm (15 + k) l) := by
  have hs1 := hs.1
  obtain ⟨m1, m2, m3⟩ := h
  refine ⟨fun w hw => ?_, fun w hw => ?_, fun w hw => ?_⟩
  · rw [h2, upf_ne (by omega), upf_ne (by omega)]
    exact m1 w (by omega)
  · rw [h2, upf_ne (by omega), upf_ne (by omega)]
    exact m2 w (by omega)
  · by_cases c : w = k
    · subst c
      rw [h2, show 21 + (15 + w) = 36 + w by omega, upf_eq, upf_eq]
    · rw [h2, upf_ne (by omega), upf_ne (by omega)]
      exact m3 w (by omega)
theorem r_readHouse {d : Nat} (h : RT M b n L p) (hI : RI M g nm on) (hs : RGs g) (hm : NMo g nm) : EvQ (d + 5) 83 [.ref 400] M fun r N => ∃ v, r = some (.int v) ∧ (RFS M N ∧ RBo (lnHouse b n L g nm on p) v N fun x => RT N b n L x.2 ∧ RI N x.1.1 x.1.2.1 x.1.2.2) := by
  have h00 := hs.1.1
  have h0 := hs.1.2.1
  obtain ⟨k, hk⟩ := Nn h0.1
  obtain ⟨j, hj⟩ := Nn h00.1
  have eM := hI.1 1 (by decide)
  rw [hk] at eM
  apply e_R_readHouse
  intro At _
  rw [eM, I_ne (by omega) (by omega) (by omega) (by omega)]
  refine ⟨fun q => ?_, fun q => ?_⟩
  · refine r_badT h (by decide) fun N hF hL hN => ⟨Or.inl rfl, _, rfl, RFS_b RFS_refl hF (by rw [hL]), RBe (e := (4, tkS b n L p)) ?_ rfl hN⟩
    unfold lnHouse
    rw [if_pos (by omega)]
  have hne : ¬ g 1 = 10 := by omega
  rw [show I 26 + I (k : Int) = I ((26 + k : Nat) : Int) by rw [I_add]; exact congrArg I (by omega), show I 13 + I (k : Int) = I ((13 + k : Nat) : Int) by rw [I_add]; exact congrArg I (by omega), show I 23 + I (k : Int) = I ((23 + k : Nat) : Int) by rw [I_add]; exact congrArg I (by omega), show I 33 + I (k : Int) = I ((33 + k : Nat) : Int) by rw [I_add]; exact congrArg I (by omega), ixI (a := ((13 + k : Nat) : Int)) (by omega) (by omega), Int.toNat_natCast]
  refine q_non (r_nextT h) ?_
  rintro N6 ⟨f1, t1⟩
  have I6 := RI_n hI f1
  have F6 := RFS_n RFS_refl f1
  refine q_int (r_fresh t1 (RI_RN2 I6) hs hm (by omega)) ?_
  rintro v N8 ⟨f2, u2, u3, e1, e2⟩
  have F8 : RFS M N8 := RFS_trans F6 ⟨f2.mono (by decide) (by decide), fun j hj => u3 j (by omega)⟩
  have s8 : N8.1 403 = M.1 403 := by rw [(f2.1 403 (by decide) (by decide)).1, (f1.1 403 (by decide) (by decide)).1]
  rcases pe_cases (pFresh b n L g nm (tkN b n L p)) with ⟨e, he⟩ | ⟨x, hx⟩
  · obtain ⟨rfl, w⟩ := e1 e he
    refine ⟨fun _ => ⟨_, rfl, F8, RBe (e := e) ?_ rfl w⟩, fun z => absurd rfl z⟩
    unfold lnHouse
    rw [if_neg hne, bnd_e he]
  obtain ⟨rfl, t2, u4⟩ := e2 x hx
  have n8 : N8.2.1 405 = upf (M.2.1 405) (26 + k) (J (nmR x.1)) := by rw [u4, (f1.1 405 (by decide) (by decide)).2]
  have o8 : N8.1 400 20 = I on := by rw [f2.2.1 20 (by decide), f1.2.1 20 (by decide)]; exact hI.2.2
  refine ⟨fun z => absurd z (by decide), fun _ => ⟨inRI (by omega) (by omega) (by omega), ?_⟩⟩
  have tail : ∀ (K : Mm) (w : Int), pWO b n L g nm x.2 = .ok w → RT K b n L (tkN b n L x.2) → RFS M K → K.1 403 = upf (M.1 403) (13 + k) (I w) → K.2.1 405 = N8.2.1 405 → K.1 400 20 = I on → ∃ (v36 : Int32), ∃ (N35 : Mm), (Ev (d + 4) 75 [.ref 400, .int (I ((23 + k : Nat) : Int)), .int (I 1), .int (I 99)] K (some (.int v36)) N35 ∧ (((v36 = (I 0)) → ∃ v, some (Value.int (I 0)) = some (.int v) ∧ (RFS M (N35) ∧ RBo (lnHouse b n L g nm on p) v (N35) fun x => RT (N35) b n L x.2 ∧ RI (N35) x.1.1 x.1.2.1 x.1.2.2)) ∧ (¬ (v36 = (I 0)) → ∃ (v41 : Int32), ∃ (N40 : Mm), (Ev (d + 4) 75 [.ref 400, .int (I ((33 + k : Nat) : Int)), .int (I 0), .int (I 60)] N35 (some (.int v41)) N40 ∧ (((v41 = (I 0)) → ∃ v, some (Value.int (I 0)) = some (.int v) ∧ (RFS M (N40) ∧ RBo (lnHouse b n L g nm on p) v (N40) fun x => RT (N40) b n L x.2 ∧ RI (N40) x.1.1 x.1.2.1 x.1.2.2)) ∧ (¬ (v41 = (I 0)) → ∃ v, some (Value.int (I 1)) = some (.int v) ∧ (RFS M (sI N40 403 1 ((N40.1 403 1) + (I 1))) ∧ RBo (lnHouse b n L g nm on p) v (sI N40 403 1 ((N40.1 403 1) + (I 1))) fun x => RT (sI N40 403 1 ((N40.1 403 1) + (I 1))) b n L x.2 ∧ RI (sI N40 403 1 ((N40.1 403 1) + (I 1))) x.1.1 x.1.2.1 x.1.2.2))))))) := by
    intro K w hw tK fK sK nK oK
    refine q_int (r_puts tK (by omega) (by decide) (by decide)) ?_
    rintro v N35 ⟨f5, l5, e5, e6⟩
    have F35 := RFS_p fK f5 l5
    rcases pe_cases (pNum b n L 1 99 (tkN b n L x.2)) with ⟨e, he⟩ | ⟨y, hy⟩
    · obtain ⟨rfl, u⟩ := e5 e he
      refine ⟨fun _ => ⟨_, rfl, F35, RBe (e := e) ?_ rfl u⟩, fun z => absurd rfl z⟩
      unfold lnHouse
      rw [if_neg hne, bnd_o hx, bnd_o hw, bnd_e he]
    obtain ⟨rfl, t5, s5⟩ := e6 y hy
    refine ⟨fun z => absurd z (by decide), fun _ => ?_⟩
    refine q_int (r_puts t5 (by omega) (by decide) (by decide)) ?_
    rintro v N40 ⟨f6, l6, e7, e8⟩
    have F40 := RFS_p F35 f6 l6
    rcases pe_cases (pNum b n L 0 60 y.2) with ⟨e, he⟩ | ⟨z, hz⟩
    · obtain ⟨rfl, u⟩ := e7 e he
      refine ⟨fun _ => ⟨_, rfl, F40, RBe (e := e) ?_ rfl u⟩, fun z => absurd rfl z⟩
      unfold lnHouse
      rw [if_neg hne, bnd_o hx, bnd_o hw, bnd_o hy, bnd_e he]
    obtain ⟨rfl, t6, s6⟩ := e8 z hz
    have s40 : N40.1 403 = upf (upf (upf (M.1 403) (13 + k) (I w)) (23 + k) (I y.1)) (33 + k) (I z.1) := by rw [s6, s5, sK]
    have s41 : N40.1 403 1 = I (k : Int) := by
      rw [s40]
      simp (disch := omega) only [upf_ne]
      exact eM
    refine ⟨fun z => absurd z (by decide), fun _ => ⟨_, rfl, RFS_i F40, RBk (x := ((upf (upf (upf (upf g (13 + (g 1).toNat) w) (23 + (g 1).toNat) y.1) (33 + (g 1).toNat) z.1) 1 (g 1 + 1), upf nm (5 + (g 1).toNat) x.1, on), z.2)) ?_ rfl ⟨RT_fr t6 (fun k hk => mI_n1 (by decide)) (mI_fn (by decide)) rfl rfl, ?_⟩⟩⟩
    · unfold lnHouse
      rw [if_neg hne, bnd_o hx, bnd_o hw, bnd_o hy, bnd_o hz]
    · rw [hk, Int.toNat_natCast, s41, I_add]
      dsimp only
      refine ⟨?_, RNm_house hs hI.2.1 hk (by omega) ?_ ?_ ?_ ?_, ?_⟩
      · rw [mI_up, s40]
        exact upfI (upfI (upfI (upfI hI.1 _ _) _ _) _ _) _ _
      · simp (disch := omega) only [upf_ne]
      · rw [upf_eq, hk]
      · simp (disch := omega) only [upf_ne]
      · show N40.2.1 405 = _
        rw [l6, l5, nK, n8]
      · rw [mI_fn (by decide), f6.2.1 20 (by decide), f5.2.1 20 (by decide)]
        exact oK
  have t8 : RT (sI N8 403 (13 + k) (I 0)) b n L x.2 := RT_fr t2 (fun k hk => mI_n1 (by decide)) (mI_fn (by decide)) rfl rfl
  refine ⟨_, _, r_isWord (w := 2) t8 (by decide) (by decide), fun z => ?_, fun z => ?_⟩
  · rw [bI0] at z
    have e0 : (sI N8 403 (13 + k) (I 0)).1 403 0 = I (j : Int) := by
      rw [mI_n2 (by omega), s8, hI.1 0 (by decide), hj]
    have eW : pWO b n L g nm x.2 = bnd (pNamed b n L nm 0 j x.2) fun w => .ok (w + 1) := by
      unfold pWO
      rw [if_neg z, hj, Int.toNat_natCast]
    rw [e0]
    refine q_int (r_takesName (nm := nm) (o := 21) (f := 0) t8 (by omega) (fun i hi => ⟨?_, ?_⟩)) ?_
    · show N8.2.1 405 (21 + i) = _
      rw [n8, upf_ne (by omega), Nat.zero_add]
      exact hI.2.1.1 i (by omega)
    · rw [Nat.zero_add]
      exact hm.1 i (by omega)
    rintro v N18 ⟨f3, l3, e3, e4⟩
    have F18 := RFS_b (RFS_i (k := 13 + k) (v := I 0) F8) f3 l3
    rcases pe_cases (pNamed b n L nm 0 j x.2) with ⟨e, he⟩ | ⟨w, hw⟩
    · obtain ⟨rfl, u⟩ := e3 e he
      refine ⟨fun _ => ⟨_, rfl, F18, RBe (e := e) ?_ rfl u⟩, fun z => absurd rfl z⟩
      unfold lnHouse
      rw [if_neg hne, bnd_o hx, eW, bnd_e he]
      rfl
    obtain ⟨rfl, t3, s3⟩ := e4 w hw
    refine ⟨fun z => absurd z (by decide), fun _ => ⟨inRI (by omega) (by omega) (by omega), ?_⟩⟩
    rw [s3, I_add]
    refine tail _ (w + 1) (by rw [eW, bnd_o hw]) (RT_fr t3 (fun k hk => mI_n1 (by decide)) (mI_fn (by decide)) rfl rfl) (RFS_i F18) ?_ ?_ ?_
    · rw [mI_up, (f3.1 403 (by decide) (by decide)).1, mI_up, s8, upf_2]
    · show N18.2.1 405 = _
      rw [l3]
      rfl
    · rw [mI_fn (by decide), f3.2.1 20 (by decide), mI_fn (by decide)]
      exact o8
  · have z2 : tkW b n L x.2 = 2 := Classical.byContradiction fun y => z (by rw [bI0]; exact y)
    refine q_non (r_nextT t8) ?_
    rintro N33 ⟨f3, t3⟩
    refine tail N33 0 ?_ t3 (RFS_n (RFS_i F8) f3) ?_ ?_ ?_
    · unfold pWO
      rw [if_pos z2]
    · rw [(f3.1 403 (by decide) (by decide)).1, mI_up, s8]
    · rw [(f3.1 405 (by decide) (by decide)).2]
      rfl
    · rw [f3.2.1 20 (by decide), mI_fn (by decide)]
      exact o8
end RLN
