/-! ===== book(): the reference ===== -/
section RBO
variable {M : Mm} {b : Nat → Nat} {n k : Nat} {g : Nat → Int} {nm : Nat → List Nat} {us : Nat → Nat → Int}
theorem consU_0 {z g : Nat → Int} {us : Nat → Nat → Int} {i : Nat} (h : i ≠ 0) : consU z us i = consU g us i := by
  cases i with
  | zero => exact absurd rfl h
  | succ i => rfl
/-- the newest of what is kept is written over -/
theorem r_over {d : Nat} {z : Nat → Int} {At : JJ} {Q : Option Value → Mm → Prop} {lv : Int} {w : Int32} {n' : Nat} (step : StepQ d k_R_book Q At) (hP : PR M n' (consU z us)) (hn : 0 < n') (hb : ∀ i, i < 33 → M.1 408 i = I (g (89 + i))) (nx : ∀ N, PR N n' (consU g us) → RF [407] [] M N → At 283 [.ref 400, .int (I lv), .int w, .retAddr 0] [] N) : At 249 [.ref 400, .int (I lv), .int w, .int (I 0)] [] M := by
  obtain ⟨p1, p2, p3⟩ := hP
  refine loopU (P := fun j : Nat => ∀ N : Mm, RF [407] [] M N → (∀ i, N.1 407 i = if 33 * (n' - 1) ≤ i ∧ i < 33 * (n' - 1) + j then I (g (89 + (i - 33 * (n' - 1)))) else M.1 407 i) → At 249 [.ref 400, .int (I lv), .int w, .int (I j)] [] N) (n := 33) ?_ ?_ M RF.refl (fun i => by rw [if_neg (by omega)])
  · intro N hF h1
    apply s_R_book_249 step
    refine ⟨fun q => absurd q (by decide), fun _ => nx N ⟨by rw [hF.2.1 23 (by decide)]; exact p1, p2, fun j i hj hi => ?_⟩ hF⟩
    rw [h1]
    by_cases c : j = n' - 1
    · subst c
      rw [if_pos (by omega), show n' - 1 - (n' - 1) = 0 by omega, show 33 * (n' - 1) + i - 33 * (n' - 1) = i by omega]
      rfl
    · rw [if_neg (by omega), p3 j i hj hi, consU_0 (g := g) (show n' - 1 - j ≠ 0 by omega)]
  · intro j hj nx2 N hF h1
    apply s_R_book_249 step
    rw [hF.2.1 23 (by decide), p1, (hF.1 408 (by decide) (by decide)).1, I_lt (by omega) (by omega) (by omega) (by omega), ixI (a := (j : Int)) (by omega) (by omega), Int.toNat_natCast, hb j hj, I_sub, I_mul, I_add, show 33 * ((n' : Int) - 1) + (j : Int) = ((33 * (n' - 1) + j : Nat) : Int) by omega, ixI (by omega) (by omega), Int.toNat_natCast, I_add]
    refine ⟨fun _ => ⟨inRI (by omega) (by omega) (by omega), inRI (by omega) (by omega) (by omega), nx2 _ (RF.u1 hF (by decide) (by decide)) fun i => ?_⟩, fun q => absurd (by omega) q⟩
    by_cases c : i = 33 * (n' - 1) + j
    · subst c
      rw [mI_eq, if_pos (by omega), show 33 * (n' - 1) + j - 33 * (n' - 1) = j by omega]
    · rw [mI_n2 c, h1 i]
      by_cases c2 : 33 * (n' - 1) ≤ i ∧ i < 33 * (n' - 1) + j
      · rw [if_pos c2, if_pos (by omega)]
      · rw [if_neg c2, if_neg (by omega)]
theorem r_book {d : Nat} (h : RU M g k us) (hnm : RNm M 405 0 g nm) (hmo : NMo g nm) (hmd : NMd g nm) (hT : TR M n b) (hw : ∀ j, j < 23 → M.2.1 406 j = J (nmR (wl j))) {lv : Int} (hlv : (-2147483648 ≤ lv ∧ lv < 2147483648)) : EvQ (d + 8) 154 [.ref 400, .int (I lv)] M fun r N => r = some (.int (I (bookA g (bkR b n g nm) lv))) ∧ N.1 400 0 = I 0 ∧ (¬ (0 ≤ lv ∧ lv ≤ 1) → N = sI M 400 0 (I 0)) ∧ (0 ≤ lv ∧ lv ≤ 1 → TR N 0 b ∧ RF LRB FRB M N ∧
    (∀ e, bkR b n g nm = .error e → N.1 400 15 = I e.1 ∧ RU N g k us ∧ N.1 400 43 = M.1 400 43 ∧ N.1 414 = M.1 414) ∧
    ∀ x, bkR b n g nm = .ok x → N.1 400 15 = I 0 ∧ RU N (if lv = 1 then (jdG x.2 x.1 g).2.2 else g) (keptN (bookL lv (jdG x.2 x.1 g).2.1) k) (keptU (bookL lv (jdG x.2 x.1 g).2.1) g us) ∧ RTd N 1 (tdG (jdG x.2 x.1 g).1 (jdG x.2 x.1 g).2.1 (jdG x.2 x.1 g).2.2)) := by
  obtain ⟨hm, hP, hs, hd, hn⟩ := h
  have h940 := hT.2.1
  generalize hR : bkR b n g nm = R
  apply e_R_book
  intro At step
  refine ⟨_, _, v_isIn hlv (by omega) (by omega), fun z => ?_, fun z => ?_⟩
  · rw [bI0] at z
    unfold bookA
    rw [if_neg z]
    exact ⟨rfl, mI_eq, fun _ => rfl, fun y => absurd y z⟩
  have ok : 0 ≤ lv ∧ lv ≤ 1 := Classical.byContradiction fun y => z (by rw [bI0]; exact y)
  have eA : bookA g R lv = bookV g R := if_pos ok
  rw [eA] at step
  have tk : Ev (d + 7) 56 [.ref 400, .int (I 400)] (sI M 400 0 (I 0)) none (sI (sI (sI (sI (sI M 400 0 (I 0)) 400 3 (I n)) 400 2 (I 0)) 400 4 (I 0)) 400 5 (I 400)) := by
    apply Ev.ofQ
    apply e_R_taken
    intro At _
    rw [mI_n2 (by decide), hT.1]
    exact ⟨rfl, rfl⟩
  refine ⟨_, tk, ?_⟩
  have e3 : ∀ v j, (sI (sI (sI (sI (sI (sI (sI M 400 0 (I 0)) 400 3 (I n)) 400 2 (I 0)) 400 4 (I 0)) 400 5 (I 400)) 400 15 (I 0)) 400 41 v).1 400 j = if j = 41 then v else if j = 15 then I 0 else if j = 5 then I 400 else if j = 4 then I 0 else if j = 2 then I 0 else if j = 3 then I n else if j = 0 then I 0 else M.1 400 j := by
    intro v j
    by_cases c1 : j = 41
    · subst c1
      rw [if_pos rfl, mI_eq]
    rw [if_neg c1, mI_n2 c1]
    by_cases c2 : j = 15
    · subst c2
      rw [if_pos rfl, mI_eq]
    rw [if_neg c2, mI_n2 c2]
    by_cases c3 : j = 5
    · subst c3
      rw [if_pos rfl, mI_eq]
    rw [if_neg c3, mI_n2 c3]
    by_cases c4 : j = 4
    · subst c4
      rw [if_pos rfl, mI_eq]
    rw [if_neg c4, mI_n2 c4]
    by_cases c5 : j = 2
    · subst c5
      rw [if_pos rfl, mI_eq]
    rw [if_neg c5, mI_n2 c5]
    by_cases c6 : j = 3
    · subst c6
      rw [if_pos rfl, mI_eq]
    rw [if_neg c6, mI_n2 c6]
    by_cases c7 : j = 0
    · subst c7
      rw [if_pos rfl, mI_eq]
    rw [if_neg c7, mI_n2 c7]
  have F3 : RF LRB FRB M (sI (sI (sI (sI (sI (sI (sI M 400 0 (I 0)) 400 3 (I n)) 400 2 (I 0)) 400 4 (I 0)) 400 5 (I 400)) 400 15 (I 0)) 400 41 (I 0)) := RF.u2 (RF.u2 (RF.u2 (RF.u2 (RF.u2 (RF.u2 (RF.f (by decide)) (by decide)) (by decide)) (by decide)) (by decide)) (by decide)) (by decide)
  have l3 : (sI (sI (sI (sI (sI (sI (sI M 400 0 (I 0)) 400 3 (I n)) 400 2 (I 0)) 400 4 (I 0)) 400 5 (I 400)) 400 15 (I 0)) 400 41 (I 0)).2.1 = M.2.1 := rfl
  have b3 : ∀ a, a ≠ 400 → (sI (sI (sI (sI (sI (sI (sI M 400 0 (I 0)) 400 3 (I n)) 400 2 (I 0)) 400 4 (I 0)) 400 5 (I 400)) 400 15 (I 0)) 400 41 (I 0)).1 a = M.1 a := fun a ha => by rw [mI_fn ha, mI_fn ha, mI_fn ha, mI_fn ha, mI_fn ha, mI_fn ha, mI_fn ha]
  have e3 := e3 (I 0)
  generalize sI (sI (sI (sI (sI (sI (sI M 400 0 (I 0)) 400 3 (I n)) 400 2 (I 0)) 400 4 (I 0)) 400 5 (I 400)) 400 15 (I 0)) 400 41 (I 0) = N3 at *
  have t3 : TRr N3 n b := ⟨by rw [e3]; rfl, h940, fun j hj => by rw [b3 401 (by decide)]; exact hT.2.2 j hj⟩
  refine q_non (r_next t3 (L := 400) (p := 0) (by rw [e3]; rfl) (by decide) (by rw [e3]; rfl) (Nat.zero_le _)) ?_
  rintro N5 ⟨f5, k5⟩
  have F5 : RF LRB FRB M N5 := F3.trans (f5.mono (by decide) (by decide))
  have rt5 : RT N5 b n 400 0 := ⟨⟨⟨by rw [f5.2.1 3 (by decide)]; exact t3.1, h940, fun j hj => by rw [(f5.1 401 (by decide) (by decide)).1]; exact t3.2.2 j hj⟩, by rw [f5.2.1 5 (by decide), e3]; rfl, by rw [f5.2.1 15 (by decide), e3]; rfl, Nat.zero_le _, by decide⟩, k5, fun j hj => by rw [(f5.1 406 (by decide) (by decide)).2, l3]; exact hw j hj⟩
  have tr : ∀ N : Mm, N.1 400 2 = I 0 → TR N 0 b := fun N a1 => ⟨a1, by omega, fun j hj => absurd hj (by omega)⟩
  have key : ∀ (f m q : Nat) (bk : Nat → BL) (N : Mm), n < q + f → q ≤ n → m ≤ 40 → RT N b n 400 q → RBk2 N m bk → (∀ i, i < m → bkOk g (bk i)) → RF LRB FRB M N → N.1 402 = M.1 402 → N.1 407 = M.1 407 → N.1 414 = M.1 414 → N.1 400 23 = M.1 400 23 → N.1 400 43 = M.1 400 43 → N.1 400 0 = I 0 → N.1 400 2 = I 0 → N.1 400 41 = I (m : Int) → bkS b n 400 g nm f m bk q = R → At 39 [.ref 400, .int (I lv), .retAddr 0, .retAddr 0] [] N := by
    intro f
    induction f with
    | zero =>
      intro m q bk N h1 h2
      exfalso
      omega
    | succ f ih =>
      intro m q bk O h1 h2 h40 hRT hB hO hF h402 h407 h414 h23 h43 h0 h22 h41 hR
      have hTk := hRT.2.1.2.2.1
      have k4 := (tk_four (b := b) (L := 400) h2).1.2.2.1
      rw [bkS_s] at hR
      have hm0 : O.1 402 = fun j => I (g j) := h402.trans hm
      have hrn : RN0 O g nm := ⟨hm0, by unfold RNm; rw [(hF.1 405 (by decide) (by decide)).2]; exact hnm, hs, hmo, hmd⟩
      have rl := r_bookLine (d := d + 2) hRT hrn h41 h40 hB
      apply s_R_book_39 step
      rw [hTk]
      clear hTk
      generalize tkK b n 400 q = kk at *
      obtain ⟨u1, u2, u3, u4, u5⟩ := rkT_e k4
      rw [I_ne (by omega) (by omega) (by omega) (by omega)]
      refine ⟨fun z => ?_, fun z => ?_⟩
      · rw [if_pos (by omega)] at hR
        -- the book is judged
        refine q_non (r_tries hm0) ?_
        rintro T ⟨tb, tF, t2⟩
        have FT : RF LRB FRB M T := hF.trans ⟨fun a a1 a2 => ⟨tF a (by intro e; subst e; exact a1 (by decide)), by rw [t2]⟩, fun j _ => by rw [tF 400 (by decide)], by rw [t2]⟩
        obtain ⟨⟨o1, o2, o3⟩, ⟨o4, o5, o6⟩, o7, o8⟩ := jd_ok (bk := bk) m 0 g hs hd hn (fun j j1 j2 => hO j (by omega))
        change SameO g (jdG bk m g).2.2 at o1
        change RGd (jdG bk m g).2.2 at o2
        change RN (jdG bk m g).2.2 at o3
        change (jdG bk m g).2.1 ≤ 0 + m at o5
        change (jdG bk m g).2.1 = 0 → (jdG bk m g).2.2 = g at o6
        change 0 ≤ (jdG bk m g).1 at o7
        change (jdG bk m g).1 ≤ 31 at o8
        have hjd : jdS bk m 0 g = jdG bk m g := rfl
        have eV : bookV g R = if (jdG bk m g).1 = 0 then -1 else ((jdG bk m g).2.1 : Int) := by rw [← hR]; rfl
        have xx : ∀ y, R = .ok y → y = (m, bk) := fun y hy => by rw [← hR] at hy; cases hy; rfl
        have nE : ∀ e, ¬ R = .error e := fun e he => by rw [← hR] at he; cases he
        -- the end, behind what is kept
        have end283 : ∀ (N : Mm) (w : Int) (n' : Nat) (us' : Nat → Nat → Int) (zz : Nat → Int), RF LRB FRB M N → (N.1 402 = fun j => I (zz j)) → RGs zz → RGd zz → RN zz → SameO g zz → PR N n' us' → (∀ i, i < 33 → N.1 408 i = I (g (89 + i))) → w = bookV g R → (lv = 1 → zz = (jdG bk m g).2.2) → n' = keptN (bookL lv (jdG bk m g).2.1) k → us' = keptU (bookL lv (jdG bk m g).2.1) g us → RTd N 1 (tdG (jdG bk m g).1 (jdG bk m g).2.1 (jdG bk m g).2.2) → N.1 400 0 = I 0 → N.1 400 2 = I 0 → N.1 400 15 = I 0 → At 283 [.ref 400, .int (I lv), .int (I w), .retAddr 0] [] N := by
          intro N w n' us' zz nF n402 zs zd zn zo nP n408 hwv hzz hn' hus nT n0 n2 n15
          apply s_R_book_283 step
          rw [I_ne (by omega) (by omega) (by omega) (by omega)]
          refine ⟨fun q => ⟨_, r_back n402 n408 zo, ?_⟩, fun q => ?_⟩
          · have h4 : ∀ j, (sS 402 N g).1 400 j = N.1 400 j := fun j => by rw [sS_ne (by decide)]
            refine ⟨by rw [hwv], by rw [h4]; exact n0, fun y => absurd ok y, fun _ => ⟨tr _ (by rw [h4]; exact n2), nF.trans (RF.ss (by decide) (by decide)), fun e he => absurd he (nE e), fun y hy => ?_⟩⟩
            rw [xx y hy]
            refine ⟨by rw [h4]; exact n15, ?_, ?_⟩
            · rw [if_neg (by omega), ← hn', ← hus]
              exact RU.act nP hs hd hn
            · unfold RTd at nT ⊢
              rw [h4, sS_ne (by decide)]
              exact nT
          · have l1 : lv = 1 := by omega
            refine ⟨by rw [hwv], n0, fun y => absurd ok y, fun _ => ⟨tr _ n2, nF, fun e he => absurd he (nE e), fun y hy => ?_⟩⟩
            rw [xx y hy]
            refine ⟨n15, ?_, nT⟩
            rw [if_pos l1, ← hn', ← hus, ← hzz l1]
            exact ⟨n402, nP, zs, zd, zn⟩
        -- the end of the judging
        have hPT : ∀ N : Mm, N.1 400 23 = M.1 400 23 → N.1 407 = M.1 407 → PR N k us := fun N a1 a2 => PR.fr hP a1 a2
        have tail : ∀ (N : Mm), RF [402, 414] [] T N → (N.1 402 = fun j => I ((jdG bk m g).2.2 j)) → N.1 414 0 = I (jdG bk m g).1 → N.1 414 1 = I ((jdG bk m g).2.1 : Nat) → ∃ (v32 : Int32), ∃ (N31 : Mm), (Ev (d + 7) 100 [.ref 400] (sI N 414 2 (N.1 402 89)) (some (.int v32)) N31 ∧ (((I lv = (I 1)) → (((I 0) < (N31.1 414 1)) → ∃ (N37 : Mm), (Ev (d + 7) 117 [.ref 400] (sI (sI N31 414 3 v32) 400 43 (I 1)) none N37 ∧ (At 249 [.ref 400, .int (I lv), .int (I (bookV g R)), .int (I 0)] [] N37))) ∧ (¬ ((I 0) < (N31.1 414 1)) → At 283 [.ref 400, .int (I lv), .int (I (bookV g R)), .retAddr 0] [] (sI (sI N31 414 3 v32) 400 43 (I 1)))) ∧ (¬ (I lv = (I 1)) → At 283 [.ref 400, .int (I lv), .int (I (bookV g R)), .retAddr 0] [] (sI (sI N31 414 3 v32) 400 43 (I 1))))) := by
          intro N nF n402 n0 n1
          have n402' : (sI N 414 2 (N.1 402 89)).1 402 = fun j => I ((jdG bk m g).2.2 j) := by rw [mI_fn (by decide)]; exact n402
          refine ⟨_, _, r_saved n402' (hs.same o1.s) o2, ?_⟩
          have FX : ∀ v : Int32, RF LRB FRB M (sI (sI (sI N 414 2 (N.1 402 89)) 414 3 v) 400 43 (I 1)) := fun v => RF.u2 (RF.u1 (RF.u1 (FT.trans (nF.mono (by decide) (by decide))) (by decide) (by decide)) (by decide) (by decide)) (by decide)
          have x402 : ∀ v : Int32, (sI (sI (sI N 414 2 (N.1 402 89)) 414 3 v) 400 43 (I 1)).1 402 = fun j => I ((jdG bk m g).2.2 j) := fun v => by rw [mI_fn (by decide), mI_fn (by decide), mI_fn (by decide)]; exact n402
          have x400 : ∀ (v : Int32) j, j ≠ 43 → (sI (sI (sI N 414 2 (N.1 402 89)) 414 3 v) 400 43 (I 1)).1 400 j = T.1 400 j := fun v j hj => by rw [mI_n2 hj, mI_fn (by decide), mI_fn (by decide), nF.2.1 j (by simp)]
          have xA : ∀ (v : Int32) a, a ≠ 400 → a ≠ 402 → a ≠ 414 → (sI (sI (sI N 414 2 (N.1 402 89)) 414 3 v) 400 43 (I 1)).1 a = T.1 a := fun v a a1 a2 a3 => by rw [mI_fn a1, mI_fn a3, mI_fn a3]; exact (nF.1 a (by simp [a2, a3]) a1).1
          have x414 : RTd (sI (sI (sI N 414 2 (N.1 402 89)) 414 3 (I (savL (fun k => (jdG bk m g).2.2 (23 + k)) ((jdG bk m g).2.2 100).toNat ((jdG bk m g).2.2 99).toNat ((jdG bk m g).2.2 1).toNat))) 400 43 (I 1)) 1 (tdG (jdG bk m g).1 (jdG bk m g).2.1 (jdG bk m g).2.2) := by
            refine ⟨mI_eq, fun _ i hi => ?_⟩
            rw [mI_fn (by decide)]
            have : i = 0 ∨ i = 1 ∨ i = 2 ∨ i = 3 := by omega
            rcases this with rfl | rfl | rfl | rfl
            · rw [mI_n2 (by decide), mI_n2 (by decide), n0]
              rfl
            · rw [mI_n2 (by decide), mI_n2 (by decide), n1]
              rfl
            · rw [mI_n2 (by decide), mI_eq, n402]
              rfl
            · rw [mI_eq]
              rfl
          have y1 : (sI N 414 2 (N.1 402 89)).1 414 1 = I ((jdG bk m g).2.1 : Nat) := by rw [mI_n2 (by decide)]; exact n1
          generalize (I (savL (fun k => (jdG bk m g).2.2 (23 + k)) ((jdG bk m g).2.2 100).toNat ((jdG bk m g).2.2 99).toNat ((jdG bk m g).2.2 1).toNat)) = vv at *
          have x402 := x402 vv
          have x400 := x400 vv
          have xA := xA vv
          have FX := FX vv
          rw [y1, I_ne (by omega) (by omega) (by omega) (by omega), I_lt (by omega) (by omega) (by omega) (by omega)]
          generalize sI (sI (sI N 414 2 (N.1 402 89)) 414 3 vv) 400 43 (I 1) = X at *
          have b408 : ∀ i, i < 33 → X.1 408 i = I (g (89 + i)) := fun i hi => by rw [xA 408 (by decide) (by decide) (by decide)]; exact tb i hi
          have T400 : T.1 400 = O.1 400 := tF 400 (by decide)
          have PX : PR X k us := hPT X (by rw [x400 23 (by decide), T400]; exact h23) (by rw [xA 407 (by decide) (by decide) (by decide), tF 407 (by decide)]; exact h407)
          have z0 : X.1 400 0 = I 0 := by rw [x400 0 (by decide), T400]; exact h0
          have z2 : X.1 400 2 = I 0 := by rw [x400 2 (by decide), T400]; exact h22
          have z15 : X.1 400 15 = I 0 := by rw [x400 15 (by decide), T400]; exact hRT.1.2.2.1
          have stay : bookL lv (jdG bk m g).2.1 = false → (lv = 1 → (jdG bk m g).2.2 = (jdG bk m g).2.2) → At 283 [.ref 400, .int (I lv), .int (I (bookV g R)), .retAddr 0] [] X := by
            intro hb _
            exact end283 X (bookV g R) k us (jdG bk m g).2.2 FX x402 (hs.same o1.s) o2 o3 o1 PX b408 rfl (fun _ => rfl) (by rw [hb]; rfl) (by rw [hb]; rfl) x414 z0 z2 z15
          refine ⟨fun q1 => ⟨fun q2 => ?_, fun q2 => ?_⟩, fun q1 => ?_⟩
          · refine q_non (r_keep x402 PX) ?_
            rintro Y ⟨pY, y1, y2, y3⟩
            have hb : bookL lv (jdG bk m g).2.1 = true := decide_eq_true ⟨q1, by omega⟩
            have FY : RF LRB FRB M Y := FX.trans ⟨fun a a1 a2 => ⟨y1 a a2 (by intro e; subst e; exact a1 (by decide)), by rw [y3]⟩, fun j hj => y2 j (by intro e; subst e; exact hj (by decide)), by rw [y3]⟩
            refine r_over (g := g) step pY (by split <;> omega) (fun i hi => by rw [y1 408 (by decide) (by decide)]; exact b408 i hi) fun Z pZ zF => ?_
            refine end283 Z (bookV g R) _ _ (jdG bk m g).2.2 (FY.trans (zF.mono (by decide) (by decide))) ?_ (hs.same o1.s) o2 o3 o1 pZ (fun i hi => ?_) rfl (fun _ => rfl) (by rw [hb]; rfl) (by rw [hb]; rfl) ?_ ?_ ?_ ?_
            · rw [(zF.1 402 (by decide) (by decide)).1, y1 402 (by decide) (by decide)]
              exact x402
            · rw [(zF.1 408 (by decide) (by decide)).1, y1 408 (by decide) (by decide)]
              exact b408 i hi
            · unfold RTd at x414 ⊢
              rw [zF.2.1 43 (by decide), y2 43 (by decide), (zF.1 414 (by decide) (by decide)).1, y1 414 (by decide) (by decide)]
              exact x414
            · rw [zF.2.1 0 (by decide), y2 0 (by decide)]
              exact z0
            · rw [zF.2.1 2 (by decide), y2 2 (by decide)]
              exact z2
            · rw [zF.2.1 15 (by decide), y2 15 (by decide)]
              exact z15
          · exact stay (decide_eq_false (fun y => q2 (by omega))) fun _ => rfl
          · exact stay (decide_eq_false (fun y => q1 y.1)) fun _ => rfl
        have b404 : T.1 404 = O.1 404 := tF 404 (by decide)
        have b41 : T.1 400 41 = I (m : Int) := by rw [tF 400 (by decide)]; exact h41
        have wn : 0 ≤ bookV g R ∨ bookV g R = -1 := by
          rw [eV]
          split <;> omega
        have wb : bookV g R ≤ 40 := by
          rw [eV]
          split <;> omega
        have key2 : ∀ (r i : Nat) (z : Nat → Int) (N : Mm), i + r = m → RF [402, 414] [] T N → (N.1 402 = fun j => I (z j)) → SameO g z → RGd z → RN z → N.1 414 0 = I 0 → N.1 414 1 = I (i : Int) → jdS bk r i z = jdG bk m g → At 111 [.ref 400, .int (I lv), .int (I (-1)), .int (I i)] [] N := by
          intro r
          induction r with
          | zero =>
            intro i z N hi nF n402 zo zd zn n0 n1 hJ
            have eJ : jdG bk m g = (0, i, z) := hJ.symm
            have eW : bookV g R = -1 := by rw [eV, eJ]; rfl
            apply s_R_book_111 step
            rw [nF.2.1 41 (by simp), b41, I_lt (by omega) (by omega) (by omega) (by omega), ← eW]
            exact ⟨fun q => absurd q (by omega), fun _ => tail N nF (by rw [eJ]; exact n402) (by rw [eJ]; exact n0) (by rw [eJ]; exact n1)⟩
          | succ r ih2 =>
            intro i z N hi nF n402 zo zd zn n0 n1 hJ
            have zs := hs.same zo.s
            have n404 : N.1 404 = O.1 404 := by rw [(nF.1 404 (by decide) (by decide)).1, b404]
            obtain ⟨g0, g1, g2⟩ := hB i (by omega)
            have wbb := whyG_b (z := z) (l := bk i)
            rw [jdS_s] at hJ
            apply s_R_book_111 step
            rw [nF.2.1 41 (by simp), b41, I_lt (by omega) (by omega) (by omega) (by omega), show I 4 * I (i : Int) = I ((4 * i : Nat) : Int) by rw [I_mul]; exact congrArg I (by omega), show I ((4 * i : Nat) : Int) + I 1 = I ((4 * i + 1 : Nat) : Int) by rw [I_add]; exact congrArg I (by omega), show I ((4 * i : Nat) : Int) + I 2 = I ((4 * i + 2 : Nat) : Int) by rw [I_add]; exact congrArg I (by omega), show I ((4 * i : Nat) : Int) + I 3 = I ((4 * i + 3 : Nat) : Int) by rw [I_add]; exact congrArg I (by omega), ixI (a := ((4 * i : Nat) : Int)) (by omega) (by omega), ixI (a := ((4 * i + 1 : Nat) : Int)) (by omega) (by omega), ixI (a := ((4 * i + 2 : Nat) : Int)) (by omega) (by omega), ixI (a := ((4 * i + 3 : Nat) : Int)) (by omega) (by omega), Int.toNat_natCast, Int.toNat_natCast, Int.toNat_natCast, Int.toNat_natCast, n404, g0, g1]
            refine ⟨fun _ => ⟨fun _ => ⟨inRI (by omega) (by omega) (by omega), inRI (by omega) (by omega) (by omega), inRI (by omega) (by omega) (by omega), inRI (by omega) (by omega) (by omega), _, _, r_does n402 zs zd zn (bkOk_o (hO i (by omega)) zo) g2, ?_⟩, fun q => absurd (by decide) q⟩, fun q => absurd (by omega) q⟩
            rw [I_lt (by omega) (by omega) (by omega) (by omega), I_add]
            refine ⟨fun q => ?_, fun q => ?_⟩
            · have qn : ¬ whyG z (bk i) = 0 := by omega
              rw [if_neg qn] at hJ
              rw [if_neg qn]
              have eJ : jdG bk m g = (whyG z (bk i), i, z) := hJ.symm
              have eW : bookV g R = (i : Int) := by
                rw [eV, eJ]
                exact if_neg qn
              apply s_R_book_111 step
              have tl := tail (sI N 414 0 (I (whyG z (bk i)))) (nF.trans (RF.st (by decide) (by decide))) (by rw [eJ, mI_fn (by decide)]; exact n402) (by rw [eJ, mI_eq]) (by rw [eJ, mI_n2 (by decide)]; exact n1)
              rw [mI_fn (by decide), nF.2.1 41 (by simp), b41, ← eW, I_lt (by omega) (by omega) (by omega) (by omega), I_lt (by omega) (by omega) (by omega) (by omega)]
              exact ⟨fun _ => ⟨fun y => absurd y (by omega), fun _ => tl⟩, fun _ => tl⟩
            · have qn : whyG z (bk i) = 0 := by omega
              rw [if_pos qn] at hJ
              rw [if_pos qn, qn]
              obtain ⟨v1, v2, v3⟩ := liv_ok zs zd zn (bkOk_o (hO i (by omega)) zo) qn
              have e1 : (sS 402 N (livG z (bk i))).1 414 1 = I (i : Int) := by rw [sS_ne (by decide)]; exact n1
              rw [e1, I_add]
              refine ih2 (i + 1) _ _ (by omega) (((nF.trans (RF.ss (by decide) (by decide))).trans (RF.st (by decide) (by decide))).trans (RF.st (by decide) (by decide))) ?_ (zo.trans v1) v2 v3 ?_ mI_eq hJ
              · rw [mI_fn (by decide), mI_fn (by decide)]
                exact sS_at
              · rw [mI_n2 (by decide), mI_eq]
        refine loopU (P := fun j : Nat => ∀ N : Mm, RF [402, 414] [] T N → N.1 402 = T.1 402 → (∀ i, i < j → N.1 414 i = I 0) → At 89 [.ref 400, .int (I lv), .int (I j), .retAddr 0] [] N) (n := 4) ?_ ?_ T RF.refl rfl (fun i hi => absurd hi (by omega))
        · intro N nF n402 n0
          apply s_R_book_89 step
          refine ⟨fun q => absurd q (by decide), fun _ => ?_⟩
          exact key2 m 0 g N (by omega) nF (by rw [n402, tF 402 (by decide)]; exact hm0) SameO.refl hd hn (n0 0 (by decide)) (n0 1 (by decide)) rfl
        · intro j hj nx N nF n402 n0
          apply s_R_book_89 step
          rw [I_lt (by omega) (by omega) (by omega) (by omega), ixI (by omega) (by omega), Int.toNat_natCast, I_add]
          refine ⟨fun _ => ⟨inRI (by omega) (by omega) (by omega), nx _ (nF.trans (RF.st (by decide) (by decide))) (by rw [mI_fn (by decide)]; exact n402) fun i hi => ?_⟩, fun q => absurd (by omega) q⟩
          by_cases c : i = j
          · rw [c, mI_eq]
          · rw [mI_n2 c]
            exact n0 i (by omega)
      · rw [if_neg (by omega)] at hR
        refine q_int rl ?_
        rintro v N8 ⟨f8, e1, e2⟩
        have F8 : RF LRB FRB M N8 := hF.trans (f8.mono (by decide) (by decide))
        have fin : ∀ (Z : Mm) (e : Int × Nat), R = .error e → rFl Z e → RF LRB FRB M Z → Z.1 402 = M.1 402 → Z.1 407 = M.1 407 → Z.1 414 = M.1 414 → Z.1 400 23 = M.1 400 23 → Z.1 400 43 = M.1 400 43 → Z.1 400 0 = I 0 → Z.1 400 2 = I 0 → some (Value.int (I (-2) - Z.1 400 16)) = some (.int (I (bookV g R))) ∧ Z.1 400 0 = I 0 ∧ (¬ (0 ≤ lv ∧ lv ≤ 1) → Z = sI M 400 0 (I 0)) ∧ (0 ≤ lv ∧ lv ≤ 1 → TR Z 0 b ∧ RF LRB FRB M Z ∧ (∀ e, R = .error e → Z.1 400 15 = I e.1 ∧ RU Z g k us ∧ Z.1 400 43 = M.1 400 43 ∧ Z.1 414 = M.1 414) ∧ ∀ x, R = .ok x → Z.1 400 15 = I 0 ∧ RU Z (if lv = 1 then (jdG x.2 x.1 g).2.2 else g) (keptN (bookL lv (jdG x.2 x.1 g).2.1) k) (keptU (bookL lv (jdG x.2 x.1 g).2.1) g us) ∧ RTd Z 1 (tdG (jdG x.2 x.1 g).1 (jdG x.2 x.1 g).2.1 (jdG x.2 x.1 g).2.2)) := by
          intro Z e hR hO oF o402 o407 o414 o23 o43 o0 o2
          refine ⟨by rw [hO.2.1, I_sub, hR]; rfl, o0, fun y => absurd ok y, fun _ => ⟨tr _ o2, oF, fun e' he => ?_, fun x hx => ?_⟩⟩
          · rw [hR] at he
            cases he
            exact ⟨hO.1, ⟨o402.trans hm, PR.fr hP o23 o407, hs, hd, hn⟩, o43, o414⟩
          · rw [hR] at hx
            cases hx
        have c402 : N8.1 402 = M.1 402 := by rw [(f8.1 402 (by decide) (by decide)).1]; exact h402
        have c407 : N8.1 407 = M.1 407 := by rw [(f8.1 407 (by decide) (by decide)).1]; exact h407
        have c414 : N8.1 414 = M.1 414 := by rw [(f8.1 414 (by decide) (by decide)).1]; exact h414
        have c23 : N8.1 400 23 = M.1 400 23 := by rw [f8.2.1 23 (by decide)]; exact h23
        have c43 : N8.1 400 43 = M.1 400 43 := by rw [f8.2.1 43 (by decide)]; exact h43
        have c0 : N8.1 400 0 = I 0 := by rw [f8.2.1 0 (by decide)]; exact h0
        have c2 : N8.1 400 2 = I 0 := by rw [f8.2.1 2 (by decide)]; exact h22
        rcases pe_cases (bkLn b n 400 g nm m q) with ⟨e, he⟩ | ⟨x, hx⟩
        · obtain ⟨rfl, w⟩ := e1 e he
          rw [bnd_e he] at hR
          exact ⟨fun _ => fin N8 e hR.symm w F8 c402 c407 c414 c23 c43 c0 c2, fun z => absurd rfl z⟩
        · obtain ⟨rfl, t6, i6⟩ := e2 x hx
          rw [bnd_o hx] at hR
          refine ⟨fun z => absurd z (by decide), fun _ => ?_⟩
          refine q_int (r_sign t6 (by decide)) ?_
          rintro v N13 ⟨f13, e3, e4⟩
          have F13 : RF LRB FRB M N13 := F8.trans (f13.mono (by decide) (by decide))
          have d402 : N13.1 402 = M.1 402 := by rw [(f13.1 402 (by decide) (by decide)).1]; exact c402
          have d407 : N13.1 407 = M.1 407 := by rw [(f13.1 407 (by decide) (by decide)).1]; exact c407
          have d414 : N13.1 414 = M.1 414 := by rw [(f13.1 414 (by decide) (by decide)).1]; exact c414
          have d23 : N13.1 400 23 = M.1 400 23 := by rw [f13.2.1 23 (by decide)]; exact c23
          have d43 : N13.1 400 43 = M.1 400 43 := by rw [f13.2.1 43 (by decide)]; exact c43
          have d0 : N13.1 400 0 = I 0 := by rw [f13.2.1 0 (by decide)]; exact c0
          have d2 : N13.1 400 2 = I 0 := by rw [f13.2.1 2 (by decide)]; exact c2
          rcases pe_cases (pSign b n 400 59 x.2) with ⟨e, he⟩ | ⟨q2, hq⟩
          · obtain ⟨rfl, w⟩ := e3 e he
            rw [bnd_e he] at hR
            exact ⟨fun _ => fin N13 e hR.symm w F13 d402 d407 d414 d23 d43 d0 d2, fun z => absurd rfl z⟩
          · obtain ⟨rfl, t11⟩ := e4 q2 hq
            rw [bnd_o hq] at hR
            refine ⟨fun z => absurd z (by decide), fun _ => ?_⟩
            obtain ⟨b1, b3, b4, b5⟩ := bk_step h2 hs hx hq
            have e41 : N13.1 400 41 = I (m : Int) := by
              rw [f13.2.1 41 (by decide), f8.2.1 41 (by decide)]
              exact h41
            rw [e41, I_add]
            have s404 : (sI N13 400 41 (I ((m : Int) + 1))).1 404 = N8.1 404 := by rw [mI_fn (by decide), (f13.1 404 (by decide) (by decide)).1]
            refine ih (m + 1) q2 _ _ (by omega) b4 (by omega) (RT_fr t11 (fun k hk => mI_n2 (by omega)) (mI_fn (by decide)) rfl rfl) ?_ (fun i hi => ?_) (RF.u2 F13 (by decide)) (by rw [mI_fn (by decide)]; exact d402) (by rw [mI_fn (by decide)]; exact d407) (by rw [mI_fn (by decide)]; exact d414) (by rw [mI_n2 (by decide)]; exact d23) (by rw [mI_n2 (by decide)]; exact d43) (by rw [mI_n2 (by decide)]; exact d0) (by rw [mI_n2 (by decide)]; exact d2) mI_eq hR
            · unfold RBk2 at i6 ⊢
              rw [s404]
              exact i6
            · by_cases c : i = m
              · rw [c, upf_eq]
                exact b1
              · rw [upf_ne c]
                exact hO i (by omega)
  have a5 : ∀ a, a ≠ 400 → N5.1 a = M.1 a := fun a ha => by rw [(f5.1 a (by simp) ha).1, b3 a ha]
  refine key (n + 1) 0 0 bk00 N5 (by omega) (by omega) (by omega) rt5 (fun i hi => absurd hi (by omega)) (fun i hi => absurd hi (by omega)) F5 (a5 402 (by decide)) (a5 407 (by decide)) (a5 414 (by decide)) ?_ ?_ ?_ ?_ ?_ hR
  · rw [f5.2.1 23 (by decide), e3]
    rfl
  · rw [f5.2.1 43 (by decide), e3]
    rfl
  · rw [f5.2.1 0 (by decide), e3]
    rfl
  · rw [f5.2.1 2 (by decide), e3]
    rfl
  · rw [f5.2.1 41 (by decide), e3]
    rfl
end RBO
