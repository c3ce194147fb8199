/-! ===== a street's text: the reference's line, all lines ===== -/
section RLQ
variable {M : Mm} {b : Nat → Nat} {n L p on : Nat} {g : Nat → Int} {nm : Nat → List Nat}
theorem r_wallBody {d : Nat} (h : RT M b n L p) (hI : RI M g nm on) (hs : RGs g) (hm : NMo g nm) : (((M.1 403 0) = (I 5)) → ∃ (v98 : Int32), ∃ (N97 : Mm), (Ev (d + 4) 69 [.ref 400, .int (I 4)] M (some (.int v98)) N97 ∧ ((v98 = I 0 ∨ v98 = I 1) ∧ (∃ v, some (Value.int v98) = some (.int v) ∧ (RFS M N97 ∧ RBo (lnWall b n L g nm on p) v N97 fun x => RT N97 b n L x.2 ∧ RI N97 x.1.1 x.1.2.1 x.1.2.2))))) ∧ (¬ ((M.1 403 0) = (I 5)) → ∃ (N101 : Mm), (Ev (d + 4) 68 [.ref 400] M none N101 ∧ (∃ (v104 : Int32), ∃ (N103 : Mm), (Ev (d + 4) 77 [.ref 400, .int ((I 21) + (M.1 403 0))] N101 (some (.int v104)) N103 ∧ (((v104 = (I 0)) → (∃ v, some (Value.int (I 0)) = some (.int v) ∧ (RFS M N103 ∧ RBo (lnWall b n L g nm on p) v N103 fun x => RT N103 b n L x.2 ∧ RI N103 x.1.1 x.1.2.1 x.1.2.2))) ∧ (¬ (v104 = (I 0)) → ∃ (v109 : Int32), ∃ (N108 : Mm), (Ev (d + 4) 75 [.ref 400, .int ((I 8) + (M.1 403 0)), .int (I 1), .int (I 20)] N103 (some (.int v109)) N108 ∧ (((v109 = (I 0)) → (∃ v, some (Value.int (I 0)) = some (.int v) ∧ (RFS M N108 ∧ RBo (lnWall b n L g nm on p) v N108 fun x => RT N108 b n L x.2 ∧ RI N108 x.1.1 x.1.2.1 x.1.2.2))) ∧ (¬ (v109 = (I 0)) → (∃ v, some (Value.int (I 1)) = some (.int v) ∧ (RFS M (sI N108 403 0 ((N108.1 403 0) + (I 1))) ∧ RBo (lnWall b n L g nm on p) v (sI N108 403 0 ((N108.1 403 0) + (I 1))) fun x => RT (sI N108 403 0 ((N108.1 403 0) + (I 1))) b n L x.2 ∧ RI (sI N108 403 0 ((N108.1 403 0) + (I 1))) x.1.1 x.1.2.1 x.1.2.2))))))))))) := by
  have h00 := hs.1.1
  have h0 := hs.1.1
  obtain ⟨k, hk⟩ := Nn h0.1
  obtain ⟨j, hj⟩ := Nn h00.1
  have eM := hI.1 0 (by decide)
  rw [hk] at eM
  rw [eM, I_ne (by omega) (by omega) (by omega) (by omega)]
  refine ⟨fun q => ?_, fun q => ?_⟩
  · refine r_badT h (by decide) fun N hF hL hN => ⟨Or.inl rfl, _, rfl, RFS_b RFS_refl hF (by rw [hL]), RBe (e := (4, tkS b n L p)) ?_ rfl hN⟩
    unfold lnWall
    rw [if_pos (by omega)]
  have hne : ¬ g 0 = 5 := by omega
  rw [show I 21 + I (k : Int) = I ((21 + k : Nat) : Int) by rw [I_add]; exact congrArg I (by omega), show I 8 + I (k : Int) = I ((8 + k : Nat) : Int) by rw [I_add]; exact congrArg I (by omega)]
  refine q_non (r_nextT h) ?_
  rintro N6 ⟨f1, t1⟩
  have I6 := RI_n hI f1
  have F6 := RFS_n RFS_refl f1
  refine q_int (r_fresh t1 (RI_RN2 I6) hs hm (by omega)) ?_
  rintro v N8 ⟨f2, u2, u3, e1, e2⟩
  have F8 : RFS M N8 := RFS_trans F6 ⟨f2.mono (by decide) (by decide), fun j hj => u3 j (by omega)⟩
  have s8 : N8.1 403 = M.1 403 := by rw [(f2.1 403 (by decide) (by decide)).1, (f1.1 403 (by decide) (by decide)).1]
  rcases pe_cases (pFresh b n L g nm (tkN b n L p)) with ⟨e, he⟩ | ⟨x, hx⟩
  · obtain ⟨rfl, w⟩ := e1 e he
    refine ⟨fun _ => ⟨_, rfl, F8, RBe (e := e) ?_ rfl w⟩, fun z => absurd rfl z⟩
    unfold lnWall
    rw [if_neg hne, bnd_e he]
  obtain ⟨rfl, t2, u4⟩ := e2 x hx
  have n8 : N8.2.1 405 = upf (M.2.1 405) (21 + k) (J (nmR x.1)) := by rw [u4, (f1.1 405 (by decide) (by decide)).2]
  have o8 : N8.1 400 20 = I on := by rw [f2.2.1 20 (by decide), f1.2.1 20 (by decide)]; exact hI.2.2
  refine ⟨fun z => absurd z (by decide), fun _ => ?_⟩
  refine q_int (r_puts t2 (by omega) (by decide) (by decide)) ?_
  rintro v N108 ⟨f5, l5, e5, e6⟩
  have F35 := RFS_p F8 f5 l5
  rcases pe_cases (pNum b n L 1 20 x.2) with ⟨e, he⟩ | ⟨y, hy⟩
  · obtain ⟨rfl, u⟩ := e5 e he
    refine ⟨fun _ => ⟨_, rfl, F35, RBe (e := e) ?_ rfl u⟩, fun z => absurd rfl z⟩
    unfold lnWall
    rw [if_neg hne, bnd_o hx, bnd_e he]
  obtain ⟨rfl, t6, s5⟩ := e6 y hy
  have s40 : N108.1 403 = upf (M.1 403) (8 + k) (I y.1) := by rw [s5, s8]
  have s41 : N108.1 403 0 = I (k : Int) := by
    rw [s40]
    simp (disch := omega) only [upf_ne]
    exact eM
  refine ⟨fun z => absurd z (by decide), fun _ => ⟨_, rfl, RFS_i F35, RBk (x := ((upf (upf g (8 + (g 0).toNat) y.1) 0 (g 0 + 1), upf nm (g 0).toNat x.1, on), y.2)) ?_ rfl ⟨RT_fr t6 (fun k hk => mI_n1 (by decide)) (mI_fn (by decide)) rfl rfl, ?_⟩⟩⟩
  · unfold lnWall
    rw [if_neg hne, bnd_o hx, bnd_o hy]
  · rw [hk, Int.toNat_natCast, s41, I_add]
    dsimp only
    refine ⟨?_, RNm_wall hs hI.2.1 hk (by omega) ?_ ?_ ?_ ?_, ?_⟩
    · rw [mI_up, s40]
      exact upfI (upfI hI.1 _ _) _ _
    · rw [upf_eq, hk]
    · simp (disch := omega) only [upf_ne]
    · simp (disch := omega) only [upf_ne]
    · show N108.2.1 405 = _
      rw [l5, n8]
    · rw [mI_fn (by decide), f5.2.1 20 (by decide)]
      exact o8
theorem r_drainBody {d : Nat} (h : RT M b n L p) (hI : RI M g nm on) (hs : RGs g) (hm : NMo g nm) : (((M.1 403 2) = (I 6)) → ∃ (v67 : Int32), ∃ (N66 : Mm), (Ev (d + 4) 69 [.ref 400, .int (I 4)] M (some (.int v67)) N66 ∧ ((v67 = I 0 ∨ v67 = I 1) ∧ (∃ v, some (Value.int v67) = some (.int v) ∧ (RFS M N66 ∧ RBo (lnDrain b n L g nm on p) v N66 fun x => RT N66 b n L x.2 ∧ RI N66 x.1.1 x.1.2.1 x.1.2.2))))) ∧ (¬ ((M.1 403 2) = (I 6)) → ∃ (N70 : Mm), (Ev (d + 4) 68 [.ref 400] M none N70 ∧ (∃ (v73 : Int32), ∃ (N72 : Mm), (Ev (d + 4) 77 [.ref 400, .int ((I 36) + (M.1 403 2))] N70 (some (.int v73)) N72 ∧ (((v73 = (I 0)) → (∃ v, some (Value.int (I 0)) = some (.int v) ∧ (RFS M N72 ∧ RBo (lnDrain b n L g nm on p) v N72 fun x => RT N72 b n L x.2 ∧ RI N72 x.1.1 x.1.2.1 x.1.2.2))) ∧ (¬ (v73 = (I 0)) → ∃ (v78 : Int32), ∃ (N77 : Mm), (Ev (d + 4) 79 [.ref 400, .int (I 21), .int (N72.1 403 0)] N72 (some (.int v78)) N77 ∧ (((v78 = (I 0)) → (∃ v, some (Value.int (I 0)) = some (.int v) ∧ (RFS M N77 ∧ RBo (lnDrain b n L g nm on p) v N77 fun x => RT N77 b n L x.2 ∧ RI N77 x.1.1 x.1.2.1 x.1.2.2))) ∧ (¬ (v78 = (I 0)) → inR ((I 43) + (M.1 403 2)) 89 ∧ (∃ (v83 : Int32), ∃ (N82 : Mm), (Ev (d + 4) 75 [.ref 400, .int ((I 49) + (M.1 403 2)), .int (I 0), .int (I 60)] (sI N77 403 ((I 43) + (M.1 403 2)).toNatClampNeg (N77.1 400 18)) (some (.int v83)) N82 ∧ (((v83 = (I 0)) → (∃ v, some (Value.int (I 0)) = some (.int v) ∧ (RFS M N82 ∧ RBo (lnDrain b n L g nm on p) v N82 fun x => RT N82 b n L x.2 ∧ RI N82 x.1.1 x.1.2.1 x.1.2.2))) ∧ (¬ (v83 = (I 0)) → ∃ (v88 : Int32), ∃ (N87 : Mm), (Ev (d + 4) 75 [.ref 400, .int ((I 55) + (M.1 403 2)), .int (I 1), .int (I 40)] N82 (some (.int v88)) N87 ∧ (((v88 = (I 0)) → (∃ v, some (Value.int (I 0)) = some (.int v) ∧ (RFS M N87 ∧ RBo (lnDrain b n L g nm on p) v N87 fun x => RT N87 b n L x.2 ∧ RI N87 x.1.1 x.1.2.1 x.1.2.2))) ∧ (¬ (v88 = (I 0)) → (∃ v, some (Value.int (I 1)) = some (.int v) ∧ (RFS M (sI N87 403 2 ((N87.1 403 2) + (I 1))) ∧ RBo (lnDrain b n L g nm on p) v (sI N87 403 2 ((N87.1 403 2) + (I 1))) fun x => RT (sI N87 403 2 ((N87.1 403 2) + (I 1))) b n L x.2 ∧ RI (sI N87 403 2 ((N87.1 403 2) + (I 1))) x.1.1 x.1.2.1 x.1.2.2)))))))))))))))))) := by
  have h00 := hs.1.1
  have h0 := hs.1.2.2.1
  obtain ⟨k, hk⟩ := Nn h0.1
  obtain ⟨j, hj⟩ := Nn h00.1
  have eM := hI.1 2 (by decide)
  rw [hk] at eM
  rw [eM, I_ne (by omega) (by omega) (by omega) (by omega)]
  refine ⟨fun q => ?_, fun q => ?_⟩
  · refine r_badT h (by decide) fun N hF hL hN => ⟨Or.inl rfl, _, rfl, RFS_b RFS_refl hF (by rw [hL]), RBe (e := (4, tkS b n L p)) ?_ rfl hN⟩
    unfold lnDrain
    rw [if_pos (by omega)]
  have hne : ¬ g 2 = 6 := by omega
  rw [show I 36 + I (k : Int) = I ((36 + k : Nat) : Int) by rw [I_add]; exact congrArg I (by omega), show I 43 + I (k : Int) = I ((43 + k : Nat) : Int) by rw [I_add]; exact congrArg I (by omega), show I 49 + I (k : Int) = I ((49 + k : Nat) : Int) by rw [I_add]; exact congrArg I (by omega), show I 55 + I (k : Int) = I ((55 + k : Nat) : Int) by rw [I_add]; exact congrArg I (by omega), ixI (a := ((43 + k : Nat) : Int)) (by omega) (by omega), Int.toNat_natCast]
  refine q_non (r_nextT h) ?_
  rintro N6 ⟨f1, t1⟩
  have I6 := RI_n hI f1
  have F6 := RFS_n RFS_refl f1
  refine q_int (r_fresh t1 (RI_RN2 I6) hs hm (by omega)) ?_
  rintro v N8 ⟨f2, u2, u3, e1, e2⟩
  have F8 : RFS M N8 := RFS_trans F6 ⟨f2.mono (by decide) (by decide), fun j hj => u3 j (by omega)⟩
  have s8 : N8.1 403 = M.1 403 := by rw [(f2.1 403 (by decide) (by decide)).1, (f1.1 403 (by decide) (by decide)).1]
  rcases pe_cases (pFresh b n L g nm (tkN b n L p)) with ⟨e, he⟩ | ⟨x, hx⟩
  · obtain ⟨rfl, w⟩ := e1 e he
    refine ⟨fun _ => ⟨_, rfl, F8, RBe (e := e) ?_ rfl w⟩, fun z => absurd rfl z⟩
    unfold lnDrain
    rw [if_neg hne, bnd_e he]
  obtain ⟨rfl, t2, u4⟩ := e2 x hx
  have n8 : N8.2.1 405 = upf (M.2.1 405) (36 + k) (J (nmR x.1)) := by rw [u4, (f1.1 405 (by decide) (by decide)).2]
  have o8 : N8.1 400 20 = I on := by rw [f2.2.1 20 (by decide), f1.2.1 20 (by decide)]; exact hI.2.2
  refine ⟨fun z => absurd z (by decide), fun _ => ?_⟩
  have e0 : N8.1 403 0 = I (j : Int) := by rw [s8, hI.1 0 (by decide), hj]
  have eqj : (g 0).toNat = j := by omega
  rw [e0]
  refine q_int (r_takesName (nm := nm) (o := 21) (f := 0) t2 (by omega) (fun i hi => ⟨?_, ?_⟩)) ?_
  · rw [n8, upf_ne (by omega), Nat.zero_add]
    exact hI.2.1.1 i (by omega)
  · rw [Nat.zero_add]
    exact hm.1 i (by omega)
  rintro v N77 ⟨f3, l3, e3, e4⟩
  have F18 := RFS_b F8 f3 l3
  rcases pe_cases (pNamed b n L nm 0 j x.2) with ⟨e, he⟩ | ⟨w, hw⟩
  · obtain ⟨rfl, u⟩ := e3 e he
    refine ⟨fun _ => ⟨_, rfl, F18, RBe (e := e) ?_ rfl u⟩, fun z => absurd rfl z⟩
    unfold lnDrain
    rw [if_neg hne, bnd_o hx, eqj, bnd_e he]
  obtain ⟨rfl, t3, s3⟩ := e4 w hw
  refine ⟨fun z => absurd z (by decide), fun _ => ⟨inRI (by omega) (by omega) (by omega), ?_⟩⟩
  rw [s3]
  have tK : RT (sI N77 403 (43 + k) (I w)) b n L (tkN b n L x.2) := RT_fr t3 (fun k hk => mI_n1 (by decide)) (mI_fn (by decide)) rfl rfl
  refine q_int (r_puts tK (by omega) (by decide) (by decide)) ?_
  rintro v N82 ⟨f5, l5, e5, e6⟩
  have F35 := RFS_p (RFS_i F18) f5 l5
  rcases pe_cases (pNum b n L 0 60 (tkN b n L x.2)) with ⟨e, he⟩ | ⟨y, hy⟩
  · obtain ⟨rfl, u⟩ := e5 e he
    refine ⟨fun _ => ⟨_, rfl, F35, RBe (e := e) ?_ rfl u⟩, fun z => absurd rfl z⟩
    unfold lnDrain
    rw [if_neg hne, bnd_o hx, eqj, bnd_o hw, bnd_e he]
  obtain ⟨rfl, t5, s5⟩ := e6 y hy
  refine ⟨fun z => absurd z (by decide), fun _ => ?_⟩
  refine q_int (r_puts t5 (by omega) (by decide) (by decide)) ?_
  rintro v N87 ⟨f6, l6, e7, e8⟩
  have F40 := RFS_p F35 f6 l6
  rcases pe_cases (pNum b n L 1 40 y.2) with ⟨e, he⟩ | ⟨z, hz⟩
  · obtain ⟨rfl, u⟩ := e7 e he
    refine ⟨fun _ => ⟨_, rfl, F40, RBe (e := e) ?_ rfl u⟩, fun z => absurd rfl z⟩
    unfold lnDrain
    rw [if_neg hne, bnd_o hx, eqj, bnd_o hw, bnd_o hy, bnd_e he]
  obtain ⟨rfl, t6, s6⟩ := e8 z hz
  have s40 : N87.1 403 = upf (upf (upf (M.1 403) (43 + k) (I w)) (49 + k) (I y.1)) (55 + k) (I z.1) := by rw [s6, s5, mI_up, (f3.1 403 (by decide) (by decide)).1, s8]
  have s41 : N87.1 403 2 = I (k : Int) := by
    rw [s40]
    simp (disch := omega) only [upf_ne]
    exact eM
  refine ⟨fun z => absurd z (by decide), fun _ => ⟨_, rfl, RFS_i F40, RBk (x := ((upf (upf (upf (upf g (43 + (g 2).toNat) w) (49 + (g 2).toNat) y.1) (55 + (g 2).toNat) z.1) 2 (g 2 + 1), upf nm (15 + (g 2).toNat) x.1, on), z.2)) ?_ rfl ⟨RT_fr t6 (fun k hk => mI_n1 (by decide)) (mI_fn (by decide)) rfl rfl, ?_⟩⟩⟩
  · unfold lnDrain
    rw [if_neg hne, bnd_o hx, eqj, bnd_o hw, bnd_o hy, bnd_o hz]
  · rw [hk, Int.toNat_natCast, s41, I_add]
    dsimp only
    refine ⟨?_, RNm_drain hs hI.2.1 hk (by omega) ?_ ?_ ?_ ?_, ?_⟩
    · rw [mI_up, s40]
      exact upfI (upfI (upfI (upfI hI.1 _ _) _ _) _ _) _ _
    · simp (disch := omega) only [upf_ne]
    · simp (disch := omega) only [upf_ne]
    · rw [upf_eq, hk]
    · show N87.2.1 405 = _
      rw [l6, l5]
      show N77.2.1 405 = _
      rw [l3, n8]
    · rw [mI_fn (by decide), f6.2.1 20 (by decide), f5.2.1 20 (by decide), mI_fn (by decide), f3.2.1 20 (by decide)]
      exact o8
theorem r_line {d : Nat} (h : RT M b n L p) (hI : RI M g nm on) (hs : RGs g) (hm : NMo g nm) (hon : on < 1024) : EvQ (d + 6) 81 [.ref 400] M fun r N => ∃ v, r = some (.int v) ∧ (RFS M N ∧ RBo (lnS b n L g nm on p) v N fun x => RT N b n L x.2 ∧ RI N x.1.1 x.1.2.1 x.1.2.2) := by
  have h1 := hs.1
  have hb3 : ∀ k : Nat, (k : Int) < g 3 → 0 ≤ g (61 + k) ∧ g (61 + k) < 1000 := fun k hk => by have := hs.2.2.2.2.1 k (by omega); omega
  have hb4 : ∀ k : Nat, (k : Int) < g 4 → 0 ≤ g (73 + k) ∧ g (73 + k) < 1000 := fun k hk => by have := hs.2.2.2.2.2.1 k (by omega); omega
  have eS : lnS b n L g nm on p = if tkW b n L p = 0 then lnWall b n L g nm on p else if tkW b n L p = 1 then lnHouse b n L g nm on p else if tkW b n L p = 3 then lnDrain b n L g nm on p
    else if tkW b n L p = 4 then lnPair b n L 3 6 61 60 67 1 99 g nm on p else if tkW b n L p = 5 then lnPair b n L 4 8 73 47 81 0 60 g nm on p
    else if tkW b n L p = 6 then lnOnce b n L 0 5 1 60 g nm on p else if tkW b n L p = 7 then lnOnce b n L 1 6 0 999 g nm on p else if tkW b n L p = 8 then lnOnce b n L 2 7 1 20 g nm on p
    else .error (1, tkS b n L p) := rfl
  have go : ∀ {R : PE (ST × Nat)} {y : Nat} {as : List Value}, EvQ (d + 5) y as M (fun r N => ∃ v, r = some (.int v) ∧ (RFS M N ∧ RBo R v N fun x => RT N b n L x.2 ∧ RI N x.1.1 x.1.2.1 x.1.2.2)) → lnS b n L g nm on p = R → ∃ (v : Int32) (N : Mm), Ev (d + 5) y as M (some (.int v)) N ∧ ((v = I 0 ∨ v = I 1) ∧ ∃ v', some (Value.int v) = some (.int v') ∧ (RFS M N ∧ RBo (lnS b n L g nm on p) v' N fun x => RT N b n L x.2 ∧ RI N x.1.1 x.1.2.1 x.1.2.2)) := by
    intro R y as hE hR
    rw [hR]
    refine q_int hE ?_
    rintro v N ⟨hF, hB⟩
    exact ⟨RBo_01 hB, v, rfl, hF, hB⟩
  have w0 := fun {d} => r_isWord (d := d) (w := 0) (x := Int64.ofNat 2002873452) h (by decide) (by decide)
  have w1 := fun {d} => r_isWord (d := d) (w := 1) (x := Int64.ofNat 448546567013) h (by decide) (by decide)
  have w3 := fun {d} => r_isWord (d := d) (w := 3) (x := Int64.ofNat 431415716206) h (by decide) (by decide)
  have w4 := fun {d} => r_isWord (d := d) (w := 4) (x := Int64.ofNat 427121013620) h (by decide) (by decide)
  have w5 := fun {d} => r_isWord (d := d) (w := 5) (x := Int64.ofNat 444016715621) h (by decide) (by decide)
  have w6 := fun {d} => r_isWord (d := d) (w := 6) (x := Int64.ofNat 123580963646565) h (by decide) (by decide)
  have w7 := fun {d} => r_isWord (d := d) (w := 7) (x := Int64.ofNat 1935765092) h (by decide) (by decide)
  have w8 := fun {d} => r_isWord (d := d) (w := 8) (x := Int64.ofNat 1918989413) h (by decide) (by decide)
  have wb := r_wallBody (d := d + 1) h hI hs hm
  have db := r_drainBody (d := d + 1) h hI hs hm
  apply e_R_line
  intro At _
  generalize tkW b n L p = w at *
  refine ⟨_, _, w0, fun z0 => ?_, fun z0 => ?_⟩
  · rw [bI0] at z0
    rw [if_neg z0] at eS
    refine ⟨_, _, w1, fun z1 => ?_, fun z1 => ?_⟩
    · rw [bI0] at z1
      rw [if_neg z1] at eS
      refine ⟨_, _, w3, fun z3 => ?_, fun z3 => ?_⟩
      · rw [bI0] at z3
        rw [if_neg z3] at eS
        refine ⟨_, _, w4, fun z4 => ?_, fun z4 => ?_⟩
        · rw [bI0] at z4
          rw [if_neg z4] at eS
          refine ⟨_, _, w5, fun z5 => ?_, fun z5 => ?_⟩
          · rw [bI0] at z5
            rw [if_neg z5] at eS
            refine ⟨_, _, w6, fun z6 => ?_, fun z6 => ?_⟩
            · rw [bI0] at z6
              rw [if_neg z6] at eS
              refine ⟨_, _, w7, fun z7 => ?_, fun z7 => ?_⟩
              · rw [bI0] at z7
                rw [if_neg z7] at eS
                refine ⟨_, _, w8, fun z8 => ?_, fun z8 => ?_⟩
                · rw [bI0] at z8
                  rw [if_neg z8] at eS
                  exact r_badT h (by decide) fun N hF hL hN => ⟨Or.inl rfl, _, rfl, RFS_b RFS_refl hF (by rw [hL]), RBe eS rfl hN⟩
                · rw [if_pos (Classical.byContradiction fun y => z8 (by rw [bI0]; exact y))] at eS
                  exact go (r_once (k := 2) (to := 7) h hI (by decide) hon (by decide) (by decide) (by decide)) eS
              · rw [if_pos (Classical.byContradiction fun y => z7 (by rw [bI0]; exact y))] at eS
                exact go (r_once (k := 1) (to := 6) h hI (by decide) hon (by decide) (by decide) (by decide)) eS
            · rw [if_pos (Classical.byContradiction fun y => z6 (by rw [bI0]; exact y))] at eS
              exact go (r_once (k := 0) (to := 5) h hI (by decide) hon (by decide) (by decide) (by decide)) eS
          · rw [if_pos (Classical.byContradiction fun y => z5 (by rw [bI0]; exact y))] at eS
            exact go (r_pair (cnt := 4) (most := 8) (fst := 73) (snd := 81) h hI (by decide) (by decide) (by decide) (by decide) h1.2.2.2.2.1 hb4 (by decide) (by decide) (by decide)) eS
        · rw [if_pos (Classical.byContradiction fun y => z4 (by rw [bI0]; exact y))] at eS
          exact go (r_pair (cnt := 3) (most := 6) (fst := 61) (snd := 67) h hI (by decide) (by decide) (by decide) (by decide) h1.2.2.2.1 hb3 (by decide) (by decide) (by decide)) eS
      · rw [if_pos (Classical.byContradiction fun y => z3 (by rw [bI0]; exact y))] at eS
        rw [eS]
        exact db
    · rw [if_pos (Classical.byContradiction fun y => z1 (by rw [bI0]; exact y))] at eS
      exact go (r_readHouse h hI hs hm) eS
  · rw [if_pos (Classical.byContradiction fun y => z0 (by rw [bI0]; exact y))] at eS
    rw [eS]
    exact wb
end RLQ
