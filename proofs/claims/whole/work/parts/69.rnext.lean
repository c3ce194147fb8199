/-! ===== tokens: the reference's next ===== -/
theorem tk_lim {b : Nat → Nat} {n L p : Nat} (h : L < n ∧ L ≤ tkQ b n p) : tkK b n L p = 1 ∧ tkS b n L p = L ∧ tkN b n L p = tkQ b n p := by
  unfold tkK tkS tkN
  rw [if_pos h, if_pos h, if_pos h]
  exact ⟨rfl, rfl, rfl⟩
theorem tk_end {b : Nat → Nat} {n L p : Nat} (h : ¬ (L < n ∧ L ≤ tkQ b n p)) (h2 : n ≤ tkQ b n p) : tkK b n L p = 0 ∧ tkS b n L p = tkQ b n p ∧ tkN b n L p = tkQ b n p := by
  unfold tkK tkS tkN
  rw [if_neg h, if_neg h, if_neg h, if_pos h2, if_pos h2]
  exact ⟨rfl, rfl, rfl⟩
theorem tk_run {b : Nat → Nat} {n L p : Nat} (h : ¬ (L < n ∧ L ≤ tkQ b n p)) (h2 : ¬ n ≤ tkQ b n p) (h3 : isLe (b (tkQ b n p)) ∨ isDi (b (tkQ b n p))) : tkK b n L p = rnK (cdg b (tkQ b n p) (tkE b n p - tkQ b n p)) (tkE b n p - tkQ b n p) ∧ tkS b n L p = tkQ b n p ∧ tkN b n L p = tkE b n p ∧ tkV b n p = nvl b (tkQ b n p) (tkE b n p - tkQ b n p) := by
  unfold tkK tkS tkN tkV rnK
  rw [if_neg h, if_neg h, if_neg h, if_neg h2, if_neg h2, if_pos h3, if_pos h3, if_pos h3]
  exact ⟨rfl, rfl, rfl, rfl⟩
theorem tk_sig {b : Nat → Nat} {n L p : Nat} (h : ¬ (L < n ∧ L ≤ tkQ b n p)) (h2 : ¬ n ≤ tkQ b n p) (h3 : ¬ (isLe (b (tkQ b n p)) ∨ isDi (b (tkQ b n p)))) : tkK b n L p = (if isSi (b (tkQ b n p)) then 4 else 1) ∧ tkS b n L p = tkQ b n p ∧ tkN b n L p = tkQ b n p + 1 ∧ tkV b n p = b (tkQ b n p) := by
  unfold tkK tkS tkN tkV
  rw [if_neg h, if_neg h, if_neg h, if_neg h2, if_neg h2, if_neg h3, if_neg h3, if_neg h3]
  exact ⟨rfl, rfl, rfl, rfl⟩
theorem RF_s4 {L T : List Nat} {M N : Mm} {k : Nat} {v : Int64} (h : RF L T M N) : RF L T M (sL N 400 k v) := ⟨fun b x1 x2 => ⟨(h.1 b x1 x2).1, by rw [sL_ne x2]; exact (h.1 b x1 x2).2⟩, h.2.1, h.2.2⟩
abbrev FJ : List Nat := [4, 11, 12, 13, 14]
def rkT (k : Nat) : Nat := if k = 0 then 0 else if k = 1 then 4 else if k = 2 then 1 else if k = 3 then 2 else 3
def RTk (M : Mm) (b : Nat → Nat) (n L p : Nat) : Prop := M.1 400 4 = I (tkN b n L p) ∧ M.1 400 12 = I (tkS b n L p) ∧ M.1 400 11 = I (rkT (tkK b n L p)) ∧ (tkK b n L p = 2 → M.2.1 400 17 = J (nmR (tkL b n p))) ∧ (tkK b n L p = 3 ∨ tkK b n L p = 4 → M.1 400 14 = I (tkV b n p))
theorem cdg_0 {b : Nat → Nat} {q : Nat} : ∀ k : Nat, cdg b q k = 0 → ∀ i, i < k → ¬ isDi (b (q + i))
  | 0, _, i, hi => absurd hi (by omega)
  | k + 1, h, i, hi => by
    rw [cdg_s] at h
    by_cases w : isDi (b (q + k))
    · rw [if_pos w] at h
      omega
    · rw [if_neg w] at h
      by_cases e : i = k
      · rw [e]
        exact w
      · exact cdg_0 k (by omega) i (by omega)
theorem cdg_k {b : Nat → Nat} {q : Nat} : ∀ k : Nat, cdg b q k = k → ∀ i, i < k → isDi (b (q + i))
  | 0, _, i, hi => absurd hi (by omega)
  | k + 1, h, i, hi => by
    rw [cdg_s] at h
    have := cdg_b (b := b) (q := q) k
    by_cases w : isDi (b (q + k))
    · rw [if_pos w] at h
      by_cases e : i = k
      · rw [e]
        exact w
      · exact cdg_k k (by omega) i (by omega)
    · rw [if_neg w] at h
      omega
theorem wR_nm {b : Nat → Nat} {q : Nat} : ∀ k : Nat, (∀ i, i < k → 96 ≤ b (q + i)) → nmR (seg b q k) = wRr b q k
  | 0, _ => rfl
  | k + 1, h => by
    have h1 := h k (by omega)
    rw [seg_s, nmR_s, wRr_s, wR_nm k fun i hi => h i (by omega)]
    omega
theorem wRr_b9 {b : Nat → Nat} {q : Nat} : ∀ k : Nat, (∀ i, i < k → b (q + i) < 256) → wRr b q k < 256 ^ k
  | 0, _ => Nat.pow_pos (n := 0) (by decide : 0 < 256)
  | k + 1, h => by
    have ih := wRr_b9 (b := b) (q := q) k fun i hi => h i (by omega)
    have := h k (by omega)
    rw [wRr_s, Nat.pow_succ]
    omega
section RNX
variable {M : Mm}
theorem r_next {d n L p : Nat} {b : Nat → Nat} (hT : TRr M n b) (hL : M.1 400 5 = I L) (hL9 : L < 1000) (h4 : M.1 400 4 = I p) (hp : p ≤ n) : EvQ (d + 2) 68 [.ref 400] M fun v M' => v = none ∧ RF [] FJ M M' ∧ RTk M' b n L p := by
  have h940 := hT.2.1
  have hq : p ≤ tkQ b n p ∧ tkQ b n p ≤ n := sk_b (P := blF b) (n := n) (p := p) hp
  have hqe : ¬ (tkQ b n p < n ∧ blF b (tkQ b n p) = true) := sk_end (P := blF b) (n := n) (p := p) hp
  have hqa : ∀ i, p ≤ i → i < tkQ b n p → i < n ∧ blF b i = true := fun i a1 a2 => sk_all a1 a2
  have c1 := tk_lim (b := b) (n := n) (L := L) (p := p)
  have c2 := tk_end (b := b) (n := n) (L := L) (p := p)
  have c3 := tk_run (b := b) (n := n) (L := L) (p := p)
  have c4 := tk_sig (b := b) (n := n) (L := L) (p := p)
  unfold RTk
  unfold tkL
  unfold tkE at *
  generalize tkQ b n p = q at *
  generalize tkK b n L p = tK at *
  generalize tkS b n L p = tS at *
  generalize tkN b n L p = tN at *
  generalize tkV b n p = tV at *
  apply e_R_next
  intro At step
  have tc : ∀ N : Mm, RF [] FJ M N → TRr N n b ∧ N.1 400 5 = I L := fun N hF => ⟨⟨by rw [hF.2.1 3 (by decide)]; exact hT.1, h940, fun k hk => by rw [(hF.1 401 (by decide) (by decide)).1]; exact hT.2.2 k hk⟩, by rw [hF.2.1 5 (by decide)]; exact hL⟩
  have hb : ∀ k, k < n → b k < 256 := fun k hk => (hT.2.2 k hk).2
  have pkb : ∀ k, -1 ≤ pkA b n k ∧ pkA b n k < 256 := fun k => pkA_b hb
  have at80 : ∀ O : Mm, RF [] FJ M O → O.1 400 4 = I q → O.1 400 12 = I q → O.1 400 13 = I 0 → ¬ (L < n ∧ L ≤ q) → At 80 [.ref 400, .retAddr 0, .retAddr 0, .retAddr 0] [] O := by
    intro O hO o4 o12 o13 hno
    obtain ⟨tO, -⟩ := tc O hO
    apply s_R_next_80 step
    by_cases hlt : q < n
    · have y2 := hb q hlt
      have hn2 : ¬ n ≤ q := by omega
      have pk := r_peek (d := d) tO o4 hq.2
      rw [show pkA b n q = (b q : Int) from if_pos hlt] at pk
      refine ⟨_, _, pk, ?_⟩
      rw [I_lt (by omega) (by omega) (by omega) (by omega)]
      refine ⟨fun z => absurd z (by omega), fun _ => ⟨_, _, r_isSmall (by omega), ?_⟩⟩
      have go : (isLe (b q) ∨ isDi (b q)) → At 164 [.ref 400, .int (I (b q : Nat)), .retAddr 0, .retAddr 0] [] O := by
        intro hal
        obtain ⟨k1, k2, k3, k4⟩ := c3 hno hn2 hal
        have hal2 : alF b q = true := decide_eq_true hal
        have hsk := sk_b (P := alF b) (n := n) (p := q) (by omega)
        have hsk1 : q + 1 ≤ sk (alF b) n q := by
          rw [sk_go hlt hal2]
          exact (sk_b (P := alF b) (n := n) (p := q + 1) (by omega)).1
        have hend := sk_end (P := alF b) (n := n) (p := q) (by omega)
        have hall : ∀ i, q ≤ i → i < sk (alF b) n q → i < n ∧ alF b i = true := fun i a1 a2 => sk_all a1 a2
        generalize sk (alF b) n q = e at *
        obtain ⟨r, hr⟩ : ∃ r, e = q + r := ⟨e - q, by omega⟩
        subst hr
        rw [show q + r - q = r by omega] at *
        apply s_R_next_164 step
        refine ⟨_, _, r_isSmall (by omega), ?_⟩
        have key := loopU (P := fun j : Nat => ∀ N : Mm, RF [] FJ M N → N.1 400 4 = I ((q + j : Nat) : Int) → N.1 400 13 = I j → N.1 400 14 = I (nvl b q (min j 3)) → N.2.1 400 17 = J (wRr b q (min j 7)) → N.1 400 12 = I q → At 181 [.ref 400, .retAddr 0, .int (I (if 97 ≤ (b q : Int) ∧ (b q : Int) ≤ 122 then 1 else 0)), .int (I (if isLe (b q) ∧ cdg b q j = 0 ∨ ¬ isLe (b q) ∧ cdg b q j = j then 1 else 0))] [] N) (n := r) ?_ ?_ (sI (sL O 400 17 (Int64.ofNat 0)) 400 14 (I 0)) (RF.u2 (RF_s4 hO) (by decide)) (by rw [mI_n2 (by decide)]; exact o4) (by rw [mI_n2 (by decide)]; exact o13) mI_eq sL_eq (by rw [mI_n2 (by decide)]; exact o12)
        · rw [if_pos (show isLe (b q) ∧ cdg b q 0 = 0 ∨ ¬ isLe (b q) ∧ cdg b q 0 = 0 by have : cdg b q 0 = 0 := rfl; by_cases w : isLe (b q); exact Or.inl ⟨w, this⟩; exact Or.inr ⟨w, this⟩)] at key
          exact key
        · intro N hF n4 n13 n14 n17 n12
          obtain ⟨tN', -⟩ := tc N hF
          have pb := pkb (q + r)
          have cb := cdg_b (b := b) (q := q) r
          have hno2 : ¬ (97 ≤ pkA b n (q + r) ∧ pkA b n (q + r) ≤ 122) ∧ ¬ (48 ≤ pkA b n (q + r) ∧ pkA b n (q + r) ≤ 57) := by
            unfold pkA
            by_cases w : q + r < n
            · rw [if_pos w]
              have : ¬ (isLe (b (q + r)) ∨ isDi (b (q + r))) := fun y => hend ⟨w, decide_eq_true y⟩
              omega
            · rw [if_neg w]
              omega
          apply s_R_next_181 step
          refine ⟨_, _, r_peek tN' n4 hsk.2, _, _, r_isSmall pb, fun _ => ⟨_, _, r_peek tN' n4 hsk.2, _, _, r_isDigit pb, fun _ => ?_, fun z => ?_⟩, fun z => ?_⟩
          · have res : ∀ v : Nat, v = rkT (rnK (cdg b q r) r) → none = (none : Option Value) ∧ RF [] FJ M (sI N 400 11 (I v)) ∧ (sI N 400 11 (I v)).1 400 4 = I tN ∧ (sI N 400 11 (I v)).1 400 12 = I tS ∧ (sI N 400 11 (I v)).1 400 11 = I (rkT tK) ∧ (tK = 2 → (sI N 400 11 (I v)).2.1 400 17 = J (nmR (seg b q r))) ∧ (tK = 3 ∨ tK = 4 → (sI N 400 11 (I v)).1 400 14 = I tV) := by
              intro v hv
              subst hv
              refine ⟨rfl, RF.u2 hF (by decide), by rw [mI_n2 (by decide), k3]; exact n4, by rw [mI_n2 (by decide), k2]; exact n12, by rw [mI_eq, k1], fun w => ?_, fun w => ?_⟩
              · rw [k1] at w
                have w2 : cdg b q r = 0 ∧ r ≤ 7 := by
                  unfold rnK at w
                  split at w
                  · assumption
                  · split at w
                    · exact absurd w (by decide)
                    · exact absurd w (by decide)
                rw [wR_nm r fun i hi => ?_]
                · show N.2.1 400 17 = _
                  rw [n17, Nat.min_eq_left w2.2]
                · have a1 := hall (q + i) (by omega) (by omega)
                  have a2 := cdg_0 r w2.1 i hi
                  have a3 : isLe (b (q + i)) ∨ isDi (b (q + i)) := of_decide_eq_true a1.2
                  omega
              · rw [k1] at w
                have w2 : cdg b q r = r ∧ r ≤ 3 := by
                  unfold rnK at w
                  split at w
                  · exact absurd w (by decide)
                  · split at w
                    · assumption
                    · exact absurd w (by decide)
                rw [mI_n2 (by decide), n14, k4, Nat.min_eq_left w2.2]
            apply s_R_next_298 step
            rw [n13, bI0, bI0, I_lt (by omega) (by omega) (by omega) (by omega), I_lt (by omega) (by omega) (by omega) (by omega)]
            unfold rnK at res
            have u1 : cdg b q r = 0 → ¬ isDi (b q) := fun y => cdg_0 r y 0 (by omega)
            have u2 : cdg b q r = r → isDi (b q) := fun y => cdg_k r y 0 (by omega)
            refine ⟨fun z => res 4 ?_, fun z => ⟨fun z2 => ⟨fun z3 => res 4 ?_, fun z3 => ⟨fun _ => res 2 ?_, fun z4 => absurd z2 z4⟩⟩, fun z2 => ⟨fun z3 => res 4 ?_, fun z3 => ⟨fun z4 => absurd z4 z2, fun _ => res 1 ?_⟩⟩⟩⟩
            · rw [if_neg (by omega), if_neg (by omega)]
              rfl
            · rw [if_neg (by omega), if_neg (by omega)]
              rfl
            · rw [if_neg (by omega), if_pos (by omega)]
              rfl
            · rw [if_neg (by omega), if_neg (by omega)]
              rfl
            · rw [if_pos (by omega)]
              rfl
          · rw [bI0] at z
            exact absurd hno2.2 z
          · rw [bI0] at z
            exact absurd hno2.1 z
        · intro j hj nx N hF n4 n13 n14 n17 n12
          obtain ⟨tN', -⟩ := tc N hF
          obtain ⟨hlj, haj⟩ := hall (q + j) (by omega) (by omega)
          have haj2 : isLe (b (q + j)) ∨ isDi (b (q + j)) := of_decide_eq_true haj
          have y3 := hb (q + j) hlj
          have cb := cdg_b (b := b) (q := q) j
          have pk2 : ∀ {d : Nat} {N : Mm}, TRr N n b → N.1 400 4 = I ((q + j : Nat) : Int) → Ev (d + 1) 65 [.ref 400] N (some (.int (I (b (q + j) : Nat)))) N := by
            intro d N t1 t2
            have := r_peek (d := d) t1 t2 (by omega)
            rw [show pkA b n (q + j) = (b (q + j) : Int) from if_pos hlj] at this
            exact this
          have hs : cdg b q (j + 1) = cdg b q j + (if isDi (b (q + j)) then 1 else 0) := cdg_s
          have at275 : ∀ O : Mm, RF [] FJ M O → O.1 400 4 = I ((q + j : Nat) : Int) → O.1 400 13 = I j → O.1 400 14 = I (nvl b q (min (j + 1) 3)) → O.2.1 400 17 = J (wRr b q (min (j + 1) 7)) → O.1 400 12 = I q → At 275 [.ref 400, .retAddr 0, .int (I (if 97 ≤ (b q : Int) ∧ (b q : Int) ≤ 122 then 1 else 0)), .int (I (if isLe (b q) ∧ cdg b q (j + 1) = 0 ∨ ¬ isLe (b q) ∧ cdg b q (j + 1) = j + 1 then 1 else 0))] [] O := by
            intro O hO o4 o13 o14 o17 o12
            apply s_R_next_275 step
            rw [o13, o4, I_add, I_add]
            exact nx _ (RF.u2 (RF.u2 hO (by decide)) (by decide)) mI_eq (by rw [mI_n2 (by decide), mI_eq]; rfl) (by rw [mI_n2 (by decide), mI_n2 (by decide)]; exact o14) o17 (by rw [mI_n2 (by decide), mI_n2 (by decide)]; exact o12)
          have at248 : ∀ O : Mm, RF [] FJ M O → O.1 400 4 = I ((q + j : Nat) : Int) → O.1 400 13 = I j → O.1 400 14 = I (nvl b q (min j 3)) → O.2.1 400 17 = J (wRr b q (min (j + 1) 7)) → O.1 400 12 = I q → At 248 [.ref 400, .retAddr 0, .int (I (if 97 ≤ (b q : Int) ∧ (b q : Int) ≤ 122 then 1 else 0)), .int (I (if isLe (b q) ∧ cdg b q (j + 1) = 0 ∨ ¬ isLe (b q) ∧ cdg b q (j + 1) = j + 1 then 1 else 0))] [] O := by
            intro O hO o4 o13 o14 o17 o12
            apply s_R_next_248 step
            rw [o13, I_lt (by omega) (by omega) (by omega) (by omega)]
            refine ⟨fun z => ⟨_, _, pk2 (tc O hO).1 o4, ?_⟩, fun z => at275 O hO o4 o13 ?_ o17 o12⟩
            · rw [o14, I_mul, I_add, I_sub]
              refine at275 _ (RF.u2 hO (by decide)) (by rw [mI_n2 (by decide)]; exact o4) (by rw [mI_n2 (by decide)]; exact o13) ?_ o17 (by rw [mI_n2 (by decide)]; exact o12)
              rw [mI_eq, Nat.min_eq_left (show j ≤ 3 by omega), Nat.min_eq_left (show j + 1 ≤ 3 by omega), nvl_s]
              exact congrArg I (by omega)
            · rw [o14, Nat.min_eq_right (show 3 ≤ j by omega), Nat.min_eq_right (show 3 ≤ j + 1 by omega)]
          have at222 : At 222 [.ref 400, .retAddr 0, .int (I (if 97 ≤ (b q : Int) ∧ (b q : Int) ≤ 122 then 1 else 0)), .int (I (if isLe (b q) ∧ cdg b q (j + 1) = 0 ∨ ¬ isLe (b q) ∧ cdg b q (j + 1) = j + 1 then 1 else 0))] [] N := by
            apply s_R_next_222 step
            rw [n13, I_lt (by omega) (by omega) (by omega) (by omega)]
            refine ⟨fun z => ⟨_, _, pk2 tN' n4, ?_⟩, fun z => at248 N hF n4 n13 n14 ?_ n12⟩
            · have wb : wRr b q j < 256 ^ j := wRr_b9 j (fun i hi => hb (q + i) (by omega))
              have wb2 : 256 ^ j ≤ 256 ^ 6 := Nat.pow_le_pow_right (by decide) (by omega)
              have wb3 : (256 : Nat) ^ 6 = 281474976710656 := by decide
              rw [n17, Nat.min_eq_left (show j ≤ 7 by omega), shl_or (by omega) y3]
              refine at248 _ (RF_s4 hF) n4 n13 n14 ?_ n12
              rw [sL_eq, Nat.min_eq_left (show j + 1 ≤ 7 by omega), wRr_s]
            · rw [n17, Nat.min_eq_right (show 7 ≤ j by omega), Nat.min_eq_right (show 7 ≤ j + 1 by omega)]
          have tail : ((I (if isLe (b q) ∧ cdg b q j = 0 ∨ ¬ isLe (b q) ∧ cdg b q j = j then 1 else 0)) = (I 0) → At 222 [.ref 400, .retAddr 0, .int (I (if 97 ≤ (b q : Int) ∧ (b q : Int) ≤ 122 then 1 else 0)), .int (I 0)] [] N) ∧ (¬ (I (if isLe (b q) ∧ cdg b q j = 0 ∨ ¬ isLe (b q) ∧ cdg b q j = j then 1 else 0)) = (I 0) → ∃ (v57 : Int32), ∃ (N56 : Mm), (Ev (d + 1) 65 [.ref 400] N (some (.int v57)) N56 ∧ (∃ (v61 : Int32), ∃ (N60 : Mm), (Ev (d + 1) 66 [.int v57] N56 (some (.int v61)) N60 ∧ (((v61 = (I (if 97 ≤ (b q : Int) ∧ (b q : Int) ≤ 122 then 1 else 0))) → At 222 [.ref 400, .retAddr 0, .int (I (if 97 ≤ (b q : Int) ∧ (b q : Int) ≤ 122 then 1 else 0)), .int (I 1)] [] N60) ∧ (¬ (v61 = (I (if 97 ≤ (b q : Int) ∧ (b q : Int) ≤ 122 then 1 else 0))) → At 222 [.ref 400, .retAddr 0, .int (I (if 97 ≤ (b q : Int) ∧ (b q : Int) ≤ 122 then 1 else 0)), .int (I 0)] [] N60)))))) := by
            rw [bI0]
            refine ⟨fun z => ?_, fun z => ⟨_, _, pk2 tN' n4, _, _, r_isSmall (by omega), fun z2 => ?_, fun z2 => ?_⟩⟩
            · have nf : ¬ (isLe (b q) ∧ cdg b q (j + 1) = 0 ∨ ¬ isLe (b q) ∧ cdg b q (j + 1) = j + 1) := by
                by_cases w : isDi (b (q + j))
                · rw [if_pos w] at hs
                  omega
                · rw [if_neg w] at hs
                  omega
              rw [if_neg nf] at at222
              exact at222
            · have nf : (isLe (b q) ∧ cdg b q (j + 1) = 0 ∨ ¬ isLe (b q) ∧ cdg b q (j + 1) = j + 1) := by
                have e2 : isLe (b (q + j)) ↔ isLe (b q) := by
                  by_cases w1 : isLe (b q)
                  · rw [if_pos (show 97 ≤ (b q : Int) ∧ (b q : Int) ≤ 122 by omega), bI1] at z2
                    omega
                  · rw [if_neg (show ¬ (97 ≤ (b q : Int) ∧ (b q : Int) ≤ 122) by omega), bI0] at z2
                    omega
                by_cases w : isDi (b (q + j))
                · rw [if_pos w] at hs
                  omega
                · rw [if_neg w] at hs
                  omega
              rw [if_pos nf] at at222
              exact at222
            · have nf : ¬ (isLe (b q) ∧ cdg b q (j + 1) = 0 ∨ ¬ isLe (b q) ∧ cdg b q (j + 1) = j + 1) := by
                have e2 : ¬ (isLe (b (q + j)) ↔ isLe (b q)) := by
                  intro y
                  by_cases w1 : isLe (b q)
                  · rw [if_pos (show 97 ≤ (b q : Int) ∧ (b q : Int) ≤ 122 by omega), bI1] at z2
                    omega
                  · rw [if_neg (show ¬ (97 ≤ (b q : Int) ∧ (b q : Int) ≤ 122) by omega), bI0] at z2
                    omega
                by_cases w : isDi (b (q + j))
                · rw [if_pos w] at hs
                  omega
                · rw [if_neg w] at hs
                  omega
              rw [if_neg nf] at at222
              exact at222
          apply s_R_next_181 step
          refine ⟨_, _, pk2 tN' n4, _, _, r_isSmall (by omega), fun z => ⟨_, _, pk2 tN' n4, _, _, r_isDigit (by omega), fun z2 => ?_, fun _ => tail⟩, fun _ => tail⟩
          rw [bI0] at z z2
          exfalso
          omega
      refine ⟨fun z => ⟨_, _, r_isDigit (by omega), ?_⟩, fun z => go (Or.inl ?_)⟩
      · rw [bI0] at z
        refine ⟨fun z2 => ?_, fun z2 => go (Or.inr ?_)⟩
        · rw [bI0] at z2
          have nal : ¬ (isLe (b q) ∨ isDi (b q)) := by omega
          obtain ⟨k1, k2, k3, k4⟩ := c4 hno hn2 nal
          have last : ∀ v : Nat, v = rkT (if isSi (b q) then 4 else 1) → none = (none : Option Value) ∧ RF [] FJ M (sI (sI (sI O 400 11 (I v)) 400 14 (I (b q : Nat))) 400 4 (I q + I 1)) ∧ (sI (sI (sI O 400 11 (I v)) 400 14 (I (b q : Nat))) 400 4 (I q + I 1)).1 400 4 = I tN ∧ (sI (sI (sI O 400 11 (I v)) 400 14 (I (b q : Nat))) 400 4 (I q + I 1)).1 400 12 = I tS ∧ (sI (sI (sI O 400 11 (I v)) 400 14 (I (b q : Nat))) 400 4 (I q + I 1)).1 400 11 = I (rkT tK) ∧ (tK = 2 → (sI (sI (sI O 400 11 (I v)) 400 14 (I (b q : Nat))) 400 4 (I q + I 1)).2.1 400 17 = J (nmR (seg b q (sk (alF b) n q - q)))) ∧ (tK = 3 ∨ tK = 4 → (sI (sI (sI O 400 11 (I v)) 400 14 (I (b q : Nat))) 400 4 (I q + I 1)).1 400 14 = I tV) := by
            intro v hv
            subst hv
            rw [I_add]
            refine ⟨rfl, RF.u2 (RF.u2 (RF.u2 hO (by decide)) (by decide)) (by decide), by rw [mI_eq, k3]; rfl, by rw [mI_n2 (by decide), mI_n2 (by decide), mI_n2 (by decide), k2]; exact o12, by rw [mI_n2 (by decide), mI_n2 (by decide), mI_eq, k1], fun w => ?_, fun _ => by rw [mI_n2 (by decide), mI_eq, k4]⟩
            rw [k1] at w
            exfalso
            revert w
            split <;> decide
          have e59 := I_ne (a := (b q : Int)) (b := 59) (by omega) (by omega) (by omega) (by omega)
          have e40 := I_ne (a := (b q : Int)) (b := 40) (by omega) (by omega) (by omega) (by omega)
          have e41 := I_ne (a := (b q : Int)) (b := 41) (by omega) (by omega) (by omega) (by omega)
          rw [e59, e40, e41, I_lt (by omega) (by omega) (by omega) (by omega), I_lt (by omega) (by omega) (by omega) (by omega), o4]
          have ys : isSi (b q) → _ := fun w => last 3 (by rw [if_pos w]; rfl)
          have yn : ¬ isSi (b q) → _ := fun w => last 4 (by rw [if_neg w]; rfl)
          exact ⟨fun w1 => ys (by omega), fun w1 => ⟨fun w2 => ys (by omega), fun w2 => ⟨fun w3 => ys (by omega), fun w3 => ⟨fun w4 => yn (by omega), fun w4 => ⟨fun w5 => yn (by omega), fun w5 => ys (by omega)⟩⟩⟩⟩⟩
        · rw [bI0] at z2
          omega
      · rw [bI0] at z
        omega
    · obtain ⟨k1, k2, k3⟩ := c2 hno (by omega)
      have pk := r_peek (d := d) tO o4 hq.2
      rw [show pkA b n q = -1 from if_neg hlt] at pk
      refine ⟨_, _, pk, ?_⟩
      rw [I_lt (by omega) (by omega) (by omega) (by omega)]
      refine ⟨fun _ => ⟨rfl, RF.u2 hO (by decide), by rw [mI_n2 (by decide), k3]; exact o4, by rw [mI_n2 (by decide), k2]; exact o12, by rw [mI_eq, k1]; rfl, fun w => ?_, fun w => ?_⟩, fun z => absurd (by omega) z⟩
      · exfalso
        omega
      · exfalso
        omega
  obtain ⟨r, hr⟩ : ∃ r, q = p + r := ⟨q - p, by omega⟩
  subst hr
  refine loopU (P := fun j : Nat => ∀ N : Mm, RF [] FJ M N → N.1 400 4 = I ((p + j : Nat) : Int) → At 0 [.ref 400, .retAddr 0, .retAddr 0, .retAddr 0] [] N) (n := r) ?_ ?_ M RF.refl h4
  · intro N hF n4
    obtain ⟨t1, t5⟩ := tc N hF
    have pb := pkb (p + r)
    have nb : ¬ (pkA b n (p + r) = 32 ∨ pkA b n (p + r) = 10) := by
      unfold pkA
      by_cases w : p + r < n
      · rw [if_pos w]
        have : ¬ isBl (b (p + r)) := fun y => hqe ⟨w, decide_eq_true y⟩
        omega
      · rw [if_neg w]
        omega
    apply s_R_next_0 step
    refine ⟨_, _, r_peek t1 n4 hq.2, ?_⟩
    rw [I_ne (by omega) (by omega) (by omega) (by omega)]
    refine ⟨fun z => absurd (Or.inl z) nb, fun _ => ⟨_, _, r_peek t1 n4 hq.2, ?_⟩⟩
    rw [I_ne (by omega) (by omega) (by omega) (by omega)]
    refine ⟨fun z => absurd (Or.inr z) nb, fun _ => ?_⟩
    apply s_R_next_31 step
    rw [t5, t1.1, n4, I_lt (by omega) (by omega) (by omega) (by omega), I_lt (by omega) (by omega) (by omega) (by omega)]
    have g80 : ¬ (L < n ∧ L ≤ p + r) → At 80 [.ref 400, .retAddr 0, .retAddr 0, .retAddr 0] [] (sI (sI N 400 12 (I ((p + r : Nat) : Int))) 400 13 (I 0)) := fun hno =>
      at80 _ (RF.u2 (RF.u2 hF (by decide)) (by decide)) (by rw [mI_n2 (by decide), mI_n2 (by decide)]; exact n4) (by rw [mI_n2 (by decide), mI_eq]) mI_eq hno
    refine ⟨fun z => ⟨fun z2 => g80 (by omega), fun z2 => ?_⟩, fun z => g80 (by omega)⟩
    obtain ⟨k1, k2, k3⟩ := c1 (by omega)
    refine ⟨rfl, RF.u2 (RF.u2 (RF.u2 (RF.u2 hF (by decide)) (by decide)) (by decide)) (by decide), by rw [mI_n2 (by decide), mI_n2 (by decide), mI_n2 (by decide), mI_n2 (by decide), k3]; exact n4, by rw [mI_n2 (by decide), mI_eq, k2], by rw [mI_eq, k1]; rfl, fun w => ?_, fun w => ?_⟩
    · exfalso
      omega
    · exfalso
      omega
  · intro j hj nx N hF n4
    obtain ⟨t1, t5⟩ := tc N hF
    obtain ⟨hlt, hbl⟩ := hqa (p + j) (by omega) (by omega)
    have hbl2 : isBl (b (p + j)) := of_decide_eq_true hbl
    have y3 := hb (p + j) hlt
    have pk2 : Ev (d + 1) 65 [.ref 400] N (some (.int (I (b (p + j) : Nat)))) N := by
      have := r_peek (d := d) t1 n4 (by omega)
      rw [show pkA b n (p + j) = (b (p + j) : Int) from if_pos hlt] at this
      exact this
    have nx2 : At 0 [.ref 400, .retAddr 0, .retAddr 0, .retAddr 0] [] (sI N 400 4 (I ((p + j : Nat) : Int) + I 1)) := by
      rw [I_add]
      exact nx _ (RF.u2 hF (by decide)) mI_eq
    apply s_R_next_0 step
    refine ⟨_, _, pk2, ?_⟩
    rw [n4, I_ne (by omega) (by omega) (by omega) (by omega)]
    refine ⟨fun _ => nx2, fun z => ⟨_, _, pk2, ?_⟩⟩
    rw [n4, I_ne (by omega) (by omega) (by omega) (by omega)]
    refine ⟨fun _ => nx2, fun z2 => ?_⟩
    exfalso
    omega
end RNX
