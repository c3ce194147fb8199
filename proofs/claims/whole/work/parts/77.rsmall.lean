/-! ===== reading: the reference's small readers ===== -/
abbrev FG : List Nat := [4, 11, 12, 13, 14, 15, 16, 18]
def rFl (N : Mm) (e : Int × Nat) : Prop := N.1 400 15 = I e.1 ∧ N.1 400 16 = I e.2 ∧ 1 ≤ e.1 ∧ e.1 ≤ 4 ∧ e.2 ≤ 940
def RBo {α : Type} (R : PE α) (v : Int32) (N : Mm) (ok : α → Prop) : Prop := (∀ e, R = .error e → v = I 0 ∧ rFl N e) ∧ ∀ x, R = .ok x → v = I 1 ∧ ok x
theorem RBe {α : Type} {R : PE α} {v : Int32} {N : Mm} {ok : α → Prop} {e : Int × Nat} (h : R = .error e) (h1 : v = I 0) (h2 : rFl N e) : RBo R v N ok := ⟨fun e' q => (by rw [h] at q; cases q; exact ⟨h1, h2⟩), fun x q => (by rw [h] at q; cases q)⟩
theorem RBk {α : Type} {R : PE α} {v : Int32} {N : Mm} {ok : α → Prop} {x : α} (h : R = .ok x) (h1 : v = I 1) (h2 : ok x) : RBo R v N ok := ⟨fun e' q => (by rw [h] at q; cases q), fun x q => (by rw [h] at q; cases q; exact ⟨h1, h2⟩)⟩
theorem RBo_01 {α : Type} {R : PE α} {v : Int32} {N : Mm} {ok : α → Prop} (h : RBo R v N ok) : v = I 0 ∨ v = I 1 := by
  rcases pe_cases R with ⟨e, he⟩ | ⟨x, hx⟩
  · exact Or.inl (h.1 e he).1
  · exact Or.inr (h.2 x hx).1
theorem RT_fr {M N : Mm} {b : Nat → Nat} {n L p : Nat} (h : RT M b n L p) (h1 : ∀ k, k = 3 ∨ k = 4 ∨ k = 5 ∨ k = 11 ∨ k = 12 ∨ k = 14 ∨ k = 15 → N.1 400 k = M.1 400 k) (h2 : N.1 401 = M.1 401) (h3 : N.2.1 400 = M.2.1 400) (h4 : N.2.1 406 = M.2.1 406) : RT N b n L p := by
  unfold RT TRr RTk at h ⊢
  rw [h1 3 (by omega), h1 4 (by omega), h1 5 (by omega), h1 11 (by omega), h1 12 (by omega), h1 14 (by omega), h1 15 (by omega), h2, h3, h4]
  exact h
theorem rkT_e {k : Nat} (hk : k ≤ 4) : (rkT k = 1 ↔ k = 2) ∧ (rkT k = 2 ↔ k = 3) ∧ (rkT k = 3 ↔ k = 4) ∧ (rkT k = 0 ↔ k = 0) ∧ rkT k ≤ 4 := by
  have : k = 0 ∨ k = 1 ∨ k = 2 ∨ k = 3 ∨ k = 4 := by omega
  rcases this with rfl | rfl | rfl | rfl | rfl <;> decide
section RSM
variable {M : Mm} {b : Nat → Nat} {n L p : Nat} {nm : Nat → List Nat} {g : Nat → Int}
theorem r_badT {d : Nat} (h : RT M b n L p) {k : Int} (hk : 1 ≤ k ∧ k ≤ 4) {K : Int32 → Mm → Prop} (q : ∀ N, RF [] FG M N → N.2.1 = M.2.1 → rFl N (k, tkS b n L p) → K (I 0) N) : ∃ (v : Int32) (N : Mm), Ev (d + 1) 69 [.ref 400, .int (I k)] M (some (.int v)) N ∧ K v N := by
  have h940 := h.1.1.2.1
  have hs := (tk_four (b := b) (L := L) h.1.2.2.2.1).1
  refine ⟨I 0, sI (sI M 400 15 (I k)) 400 16 (M.1 400 12), ?_, q _ (RF.u2 (RF.f (by decide)) (by decide)) rfl ⟨by rw [mI_n2 (by decide), mI_eq], by rw [mI_eq]; exact h.2.1.2.1, hk.1, hk.2, by show tkS b n L p ≤ 940; omega⟩⟩
  apply Ev.ofQ
  apply e_R_bad
  intro At _
  exact ⟨rfl, rfl⟩
theorem r_isWord {d w : Nat} {x : Int64} (h : RT M b n L p) (hw : w < 23) (hx : x = J (nmR (wl w))) : Ev (d + 1) 70 [.ref 400, .long x] M (some (.int (I (if tkW b n L p = w then 1 else 0)))) M := by
  obtain ⟨k1, k2, k3, k4⟩ := tk_four (b := b) (L := L) h.1.2.2.2.1
  have w2 := tkW_2 (b := b) (n := n) (L := L) (p := p)
  obtain ⟨e1, e2, e3, e4, e5⟩ := rkT_e k1.2.2.1
  subst hx
  apply Ev.ofQ
  apply e_R_isWord
  intro At _
  obtain ⟨-, ⟨a4, a12, a11, a17, a14⟩, a406⟩ := h
  rw [a11, I_ne (by omega) (by omega) (by omega) (by omega)]
  refine ⟨fun q => ?_, fun q => ?_⟩
  · have q2 : tkK b n L p = 2 := by omega
    have hl := (k2 q2).1
    rw [a17 q2, lg0, nmR_inj hl (wl_ok w hw), ← wix_e hw]
    have ew : tkW b n L p = wix (tkL b n p) := if_pos q2
    rw [ew]
    refine ⟨fun z => ?_, fun z => ?_⟩
    · rw [if_pos z]
      exact ⟨rfl, rfl⟩
    · rw [if_neg z]
      exact ⟨rfl, rfl⟩
  · rw [if_neg (c := tkW b n L p = w)]
    · exact ⟨rfl, rfl⟩
    · omega
theorem r_isSign {d : Nat} {c : Int} (h : RT M b n L p) (hc : 0 ≤ c ∧ c < 256) : Ev (d + 1) 71 [.ref 400, .int (I c)] M (some (.int (I (if tkK b n L p = 4 ∧ tkV b n p = c then 1 else 0)))) M := by
  obtain ⟨k1, k2, k3, k4⟩ := tk_four (b := b) (L := L) h.1.2.2.2.1
  obtain ⟨e1, e2, e3, e4, e5⟩ := rkT_e k1.2.2.1
  apply Ev.ofQ
  apply e_R_isSign
  intro At _
  obtain ⟨-, ⟨a4, a12, a11, a17, a14⟩, a406⟩ := h
  rw [a11, I_ne (by omega) (by omega) (by omega) (by omega)]
  refine ⟨fun q => ?_, fun q => ?_⟩
  · have q4 : tkK b n L p = 4 := by omega
    have := k4 q4
    rw [a14 (Or.inr q4), I_ne (by omega) (by omega) (by omega) (by omega)]
    refine ⟨fun q2 => ?_, fun q2 => ?_⟩
    · rw [if_pos ⟨q4, q2⟩]
      exact ⟨rfl, rfl⟩
    · rw [if_neg (fun z => q2 z.2)]
      exact ⟨rfl, rfl⟩
  · rw [if_neg (fun z => q (by omega))]
    exact ⟨rfl, rfl⟩
theorem r_sign {d : Nat} (h : RT M b n L p) {c : Int} (hc : 0 ≤ c ∧ c < 256) : EvQ (d + 3) 72 [.ref 400, .int (I c)] M fun r N => ∃ v, r = some (.int v) ∧ (RF [] FG M N ∧ RBo (pSign b n L c p) v N fun q => RT N b n L q) := by
  apply e_R_sign
  intro At _
  refine ⟨_, _, r_isSign h hc, fun z => ?_, fun z => ?_⟩
  · rw [bI0] at z
    refine r_badT h (by decide) fun N hF _ hN => ⟨Or.inl rfl, _, rfl, hF, RBe (e := (1, tkS b n L p)) ?_ rfl hN⟩
    unfold pSign
    rw [if_neg z]
  · have z2 : tkK b n L p = 4 ∧ tkV b n p = c := Classical.byContradiction fun y => z (by rw [bI0]; exact y)
    refine q_non (r_nextT h) ?_
    rintro N ⟨hF, hN⟩
    refine ⟨_, rfl, hF.mono (by decide) (by decide), RBk (x := tkN b n L p) ?_ rfl hN⟩
    unfold pSign
    rw [if_pos z2]
theorem r_isName {d : Nat} (h : RT M b n L p) : Ev (d + 1) 73 [.ref 400] M (some (.int (I (if tkW b n L p = 23 then 1 else 0)))) M := by
  obtain ⟨k1, k2, k3, k4⟩ := tk_four (b := b) (L := L) h.1.2.2.2.1
  have w2 := tkW_2 (b := b) (n := n) (L := L) (p := p)
  obtain ⟨e1, e2, e3, e4, e5⟩ := rkT_e k1.2.2.1
  apply Ev.ofQ
  apply e_R_isName
  intro At step
  obtain ⟨-, ⟨a4, a12, a11, a17, a14⟩, a406⟩ := h
  rw [a11, I_ne (by omega) (by omega) (by omega) (by omega)]
  have no : tkW b n L p ≠ 23 → ∀ j : Nat, j ≤ 23 → At 16 [.ref 400, .int (I 0), .int (I j)] [] M := by
    intro hw j hj
    have key : ∀ m i : Nat, i + m = 23 → At 16 [.ref 400, .int (I 0), .int (I i)] [] M := by
      intro m
      induction m with
      | zero =>
        intro i hi
        apply s_R_isName_16 step
        rw [I_lt (by omega) (by omega) (by omega) (by omega)]
        refine ⟨fun q => absurd q (by omega), fun _ => ⟨Or.inl rfl, ?_⟩⟩
        rw [if_neg hw]
        exact ⟨rfl, rfl⟩
      | succ m ih =>
        intro i hi
        apply s_R_isName_16 step
        rw [I_lt (by omega) (by omega) (by omega) (by omega), I_add]
        exact ⟨fun _ => ⟨fun _ => ih (i + 1) (by omega), fun q => absurd rfl q⟩, fun q => absurd (by omega) q⟩
    exact key (23 - j) j (by omega)
  refine ⟨fun q => ?_, fun q => ?_⟩
  · have q2 : tkK b n L p = 2 := by omega
    have hl := (k2 q2).1
    have ew : tkW b n L p = wix (tkL b n p) := if_pos q2
    have a17 := a17 q2
    have key : ∀ m i : Nat, i + m = 23 → (∀ j, j < i → tkW b n L p ≠ j) → At 16 [.ref 400, .int (I 1), .int (I i)] [] M := by
      intro m
      induction m with
      | zero =>
        intro i hi hj
        apply s_R_isName_16 step
        rw [I_lt (by omega) (by omega) (by omega) (by omega)]
        refine ⟨fun q => absurd q (by omega), fun _ => ⟨Or.inr rfl, ?_⟩⟩
        rw [if_pos (c := tkW b n L p = 23)]
        · exact ⟨rfl, rfl⟩
        · have := hj (tkW b n L p)
          omega
      | succ m ih =>
        intro i hi hj
        apply s_R_isName_16 step
        rw [I_lt (by omega) (by omega) (by omega) (by omega), ixI (by omega) (by omega), Int.toNat_natCast, a17, a406 i (by omega), lg0, nmR_inj hl (wl_ok i (by omega)), ← wix_e (show i < 23 by omega), ← ew, I_add]
        refine ⟨fun _ => ⟨fun q => absurd q (by decide), fun _ => ⟨inRI (by omega) (by omega) (by omega), fun q => ?_, fun q => ih (i + 1) (by omega) fun j hj2 => ?_⟩⟩, fun q => absurd (by omega) q⟩
        · exact no (by omega) (i + 1) (by omega)
        · by_cases e : j = i
          · rw [e]
            exact q
          · exact hj j (by omega)
    exact key 23 0 rfl fun j hj => absurd hj (by omega)
  · exact no (by omega) 0 (by omega)
theorem r_takesNumber {d : Nat} (h : RT M b n L p) {lo hi : Int} (hl : 0 ≤ lo ∧ lo < 1000) (hh : 0 ≤ hi ∧ hi < 1000) : EvQ (d + 3) 74 [.ref 400, .int (I lo), .int (I hi)] M fun r N => ∃ v, r = some (.int v) ∧ (RF [] FG M N ∧ N.2.1 405 = M.2.1 405 ∧ RBo (pNum b n L lo hi p) v N fun x => RT N b n L x.2 ∧ N.1 400 18 = I x.1) := by
  obtain ⟨k1, k2, k3, k4⟩ := tk_four (b := b) (L := L) h.1.2.2.2.1
  obtain ⟨e1, e2, e3, e4, e5⟩ := rkT_e k1.2.2.1
  have a11 := h.2.1.2.2.1
  have a14 := h.2.1.2.2.2.2
  apply e_R_takesNumber
  intro At _
  rw [a11, I_ne (by omega) (by omega) (by omega) (by omega)]
  refine ⟨fun q => ?_, fun q => ?_⟩
  · have q3 : tkK b n L p = 3 := by omega
    have b3 := k3 q3
    have h18 : RT (sI M 400 18 (I (tkV b n p))) b n L p := RT_fr h (fun k hk => mI_n2 (by omega)) (mI_fn (by decide)) rfl rfl
    rw [a14 (Or.inl q3)]
    refine ⟨_, _, v_isIn (by omega) (by omega) (by omega), fun z => ?_, fun z => ?_⟩
    · rw [bI0] at z
      refine r_badT h (by decide) fun N hF hL hN => ⟨Or.inl rfl, _, rfl, hF, by rw [hL], RBe (e := (2, tkS b n L p)) (bnd_e ?_) rfl hN⟩
      unfold pSee
      rw [if_pos q3, if_pos (by omega)]
    · have z2 : lo ≤ tkV b n p ∧ tkV b n p ≤ hi := Classical.byContradiction fun y => z (by rw [bI0]; exact y)
      rw [a14 (Or.inl q3)]
      refine q_non (r_nextT h18) ?_
      rintro N ⟨f1, f2⟩
      refine ⟨_, rfl, (RF.f (by decide)).trans (f1.mono (by decide) (by decide)), (f1.1 405 (by decide) (by decide)).2, RBk (x := (tkV b n p, tkN b n L p)) (bnd_o (y := tkV b n p) ?_) rfl ⟨f2, by rw [f1.2.1 18 (by decide), mI_eq]⟩⟩
      unfold pSee
      rw [if_pos q3, if_neg (by omega)]
  · refine r_badT h (by decide) fun N hF hL hN => ⟨Or.inl rfl, _, rfl, hF, by rw [hL], RBe (e := (1, tkS b n L p)) (bnd_e ?_) rfl hN⟩
    unfold pSee
    rw [if_neg (by omega)]
theorem r_puts {d to : Nat} (h : RT M b n L p) (ht : to < 89) {lo hi : Int} (hl : 0 ≤ lo ∧ lo < 1000) (hh : 0 ≤ hi ∧ hi < 1000) : EvQ (d + 4) 75 [.ref 400, .int (I to), .int (I lo), .int (I hi)] M fun r N => ∃ v, r = some (.int v) ∧ (RF [403] FG M N ∧ N.2.1 405 = M.2.1 405 ∧ RBo (pNum b n L lo hi p) v N fun x => RT N b n L x.2 ∧ N.1 403 = upf (M.1 403) to (I x.1)) := by
  apply e_R_puts
  intro At _
  refine q_int (r_takesNumber h hl hh) ?_
  rintro v N ⟨hF, hL, e1, e2⟩
  rcases pe_cases (pNum b n L lo hi p) with ⟨e, he⟩ | ⟨x, hx⟩
  · obtain ⟨rfl, w⟩ := e1 e he
    exact ⟨fun _ => ⟨_, rfl, hF.mono (by decide) (by decide), hL, RBe he rfl w⟩, fun z => absurd rfl z⟩
  · obtain ⟨rfl, w, w18⟩ := e2 x hx
    refine ⟨fun z => absurd z (by decide), fun _ => ⟨inRI (by omega) (by omega) (by omega), _, rfl, RF.u1 (hF.mono (by decide) (by decide)) (by decide) (by decide), hL, RBk hx rfl ⟨RT_fr w (fun k hk => mI_n1 (by decide)) (mI_fn (by decide)) rfl rfl, ?_⟩⟩⟩
    rw [ixI (by omega) (by omega), Int.toNat_natCast, w18]
    show up2 N.1 403 to (I x.1) 403 = _
    rw [up2_eq, (hF.1 403 (by decide) (by decide)).1]
theorem r_find {d o f many : Nat} {l : List Nat} (h17 : M.2.1 400 17 = J (nmR l)) (hl : nmOk l) (ho : o + many ≤ 42) (hN : ∀ k, k < many → M.2.1 405 (o + k) = J (nmR (nm (f + k))) ∧ nmOk (nm (f + k))) : Ev (d + 1) 76 [.ref 400, .int (I o), .int (I many)] M (some (.int (I (fnd nm l f many)))) M := by
  apply Ev.ofQ
  apply e_R_find
  intro At step
  have key : ∀ m k : Nat, k + m = many → fdS nm l f m k = fnd nm l f many → At 2 [.ref 400, .int (I o), .int (I many), .int (I k)] [] M := by
    intro m
    induction m with
    | zero =>
      intro k hk e
      apply s_R_find_2 step
      rw [I_lt (by omega) (by omega) (by omega) (by omega), ← e]
      exact ⟨fun q => absurd q (by omega), fun _ => ⟨rfl, rfl⟩⟩
    | succ m ih =>
      intro k hk e
      apply s_R_find_2 step
      obtain ⟨n1, n2⟩ := hN k (by omega)
      rw [fdS_s] at e
      rw [I_lt (by omega) (by omega) (by omega) (by omega), I_add, ixI (by omega) (by omega), show ((o : Int) + k).toNat = o + k by omega, n1, h17, lg0, nmR_inj n2 hl, I_add]
      refine ⟨fun _ => ⟨inRI (by omega) (by omega) (by omega), fun q => ?_, fun q => ?_⟩, fun q => absurd (by omega) q⟩
      · rw [if_pos q] at e
        rw [← e]
        exact ⟨rfl, rfl⟩
      · rw [if_neg q] at e
        exact ih (k + 1) (by omega) e
  exact key many 0 (by omega) rfl
theorem r_looksAt {d o f many : Nat} (h : RT M b n L p) (ho : o + many ≤ 42) (hN : ∀ k, k < many → M.2.1 405 (o + k) = J (nmR (nm (f + k))) ∧ nmOk (nm (f + k))) : EvQ (d + 2) 78 [.ref 400, .int (I o), .int (I many)] M fun r N => ∃ v, r = some (.int v) ∧ (RF [] FG M N ∧ N.2.1 = M.2.1 ∧ RBo (pNamed b n L nm f many p) v N fun x => RT N b n L p ∧ N.1 400 18 = I x) := by
  have w2 := tkW_2 (b := b) (n := n) (L := L) (p := p)
  obtain ⟨k1, k2, k3, k4⟩ := tk_four (b := b) (L := L) h.1.2.2.2.1
  apply e_R_looksAt
  intro At _
  refine ⟨_, _, r_isName h, fun z => ?_, fun z => ?_⟩
  · rw [bI0] at z
    refine r_badT h (by decide) fun N hF hL hN => ⟨Or.inl rfl, _, rfl, hF, hL, RBe (e := (1, tkS b n L p)) ?_ rfl hN⟩
    unfold pNamed
    rw [if_neg z]
  · have z2 : tkW b n L p = 23 := Classical.byContradiction fun y => z (by rw [bI0]; exact y)
    have z3 : tkK b n L p = 2 := w2.mp (by omega)
    have hb := fnd_b (nm := nm) (l := tkL b n p) (f := f) (m := many)
    have e7 := h.2.1.2.2.2.1 z3
    have h18 : ∀ v : Int32, RT (sI M 400 18 v) b n L p := fun v => RT_fr h (fun k hk => mI_n2 (by omega)) (mI_fn (by decide)) rfl rfl
    refine ⟨_, _, r_find e7 (k2 z3).1 ho hN, ?_⟩
    rw [I_lt (by omega) (by omega) (by omega) (by omega)]
    refine ⟨fun q => ?_, fun q => ?_⟩
    · refine r_badT (h18 _) (by decide) fun N hF hL hN => ⟨fun _ => ⟨_, rfl, (RF.f (by decide)).trans hF, by rw [hL]; rfl, RBe (e := (3, tkS b n L p)) ?_ rfl hN⟩, fun y => absurd rfl y⟩
      unfold pNamed
      rw [if_pos z2, if_pos (by omega)]
    · refine ⟨_, rfl, RF.f (by decide), rfl, RBk (x := fnd nm (tkL b n p) f many) ?_ rfl ⟨h18 _, mI_eq⟩⟩
      unfold pNamed
      rw [if_pos z2, if_neg (by omega)]
theorem r_takesName {d o f many : Nat} (h : RT M b n L p) (ho : o + many ≤ 42) (hN : ∀ k, k < many → M.2.1 405 (o + k) = J (nmR (nm (f + k))) ∧ nmOk (nm (f + k))) : EvQ (d + 3) 79 [.ref 400, .int (I o), .int (I many)] M fun r N => ∃ v, r = some (.int v) ∧ (RF [] FG M N ∧ N.2.1 405 = M.2.1 405 ∧ RBo (pNamed b n L nm f many p) v N fun x => RT N b n L (tkN b n L p) ∧ N.1 400 18 = I x) := by
  apply e_R_takesName
  intro At _
  refine q_int (r_looksAt h ho hN) ?_
  rintro v N ⟨hF, hL, e1, e2⟩
  rcases pe_cases (pNamed b n L nm f many p) with ⟨e, he⟩ | ⟨x, hx⟩
  · obtain ⟨rfl, w⟩ := e1 e he
    exact ⟨fun _ => ⟨_, rfl, hF, by rw [hL], RBe he rfl w⟩, fun z => absurd rfl z⟩
  · obtain ⟨rfl, w, w18⟩ := e2 x hx
    refine ⟨fun z => absurd z (by decide), fun _ => ?_⟩
    refine q_non (r_nextT w) ?_
    rintro N6 ⟨f1, f2⟩
    exact ⟨_, rfl, hF.trans (f1.mono (by decide) (by decide)), by rw [(f1.1 405 (by decide) (by decide)).2, hL], RBk hx rfl ⟨f2, by rw [f1.2.1 18 (by decide)]; exact w18⟩⟩
/-- the names that are being told -/
def RN2 (M : Mm) (g : Nat → Int) (nm : Nat → List Nat) : Prop := M.1 403 0 = I (g 0) ∧ M.1 403 1 = I (g 1) ∧ M.1 403 2 = I (g 2) ∧ RNm M 405 21 g nm
theorem r_fresh {d to : Nat} (h : RT M b n L p) (hr : RN2 M g nm) (hs : RGs g) (hm : NMo g nm) (ht : to < 42) : EvQ (d + 3) 77 [.ref 400, .int (I to)] M fun r N => ∃ v, r = some (.int v) ∧ (RF [405] FG M N ∧ N.1 405 = M.1 405 ∧ (∀ k, k ≠ to → N.2.1 405 k = M.2.1 405 k) ∧ RBo (pFresh b n L g nm p) v N fun x => RT N b n L x.2 ∧ N.2.1 405 = upf (M.2.1 405) to (J (nmR x.1))) := by
  have hs1 := hs.1
  have w2 := tkW_2 (b := b) (n := n) (L := L) (p := p)
  obtain ⟨k1, k2, k3, k4⟩ := tk_four (b := b) (L := L) h.1.2.2.2.1
  obtain ⟨r0, r1, r2, m0, m1, m2⟩ := hr
  obtain ⟨j0, hj0⟩ := Nn hs1.1.1
  obtain ⟨j1, hj1⟩ := Nn hs1.2.1.1
  obtain ⟨j2, hj2⟩ := Nn hs1.2.2.1.1
  apply e_R_fresh
  intro At _
  refine ⟨_, _, r_isName h, fun z => ?_, fun z => ?_⟩
  · rw [bI0] at z
    refine r_badT h (by decide) fun N hF hL hN => ⟨Or.inl rfl, _, rfl, hF.mono (by decide) (by decide), (hF.1 405 (by decide) (by decide)).1, fun k _ => by rw [hL], RBe (e := (1, tkS b n L p)) ?_ rfl hN⟩
    unfold pFresh
    rw [if_neg z]
  · have z2 : tkW b n L p = 23 := Classical.byContradiction fun y => z (by rw [bI0]; exact y)
    have z3 : tkK b n L p = 2 := w2.mp (by omega)
    have e7 := h.2.1.2.2.2.1 z3
    have hl := (k2 z3).1
    have b0 := fnd_b (nm := nm) (l := tkL b n p) (f := 0) (m := j0)
    have b1 := fnd_b (nm := nm) (l := tkL b n p) (f := 5) (m := j1)
    have b2 := fnd_b (nm := nm) (l := tkL b n p) (f := 15) (m := j2)
    have y0 := r_find (d := d + 1) (nm := nm) (o := 21) (f := 0) (many := j0) e7 hl (by omega) (fun k hk => ⟨by rw [Nat.zero_add]; exact m0 k (by omega), by rw [Nat.zero_add]; exact hm.1 k (by omega)⟩)
    have y1 := r_find (d := d + 1) (nm := nm) (o := 26) (f := 5) (many := j1) e7 hl (by omega) (fun k hk => ⟨by rw [show 26 + k = 21 + (5 + k) by omega]; exact m1 k (by omega), hm.2.1 k (by omega)⟩)
    have y2 := r_find (d := d + 1) (nm := nm) (o := 36) (f := 15) (many := j2) e7 hl (by omega) (fun k hk => ⟨by rw [show 36 + k = 21 + (15 + k) by omega]; exact m2 k (by omega), hm.2.2 k (by omega)⟩)
    have eF : pFresh b n L g nm p = if fnd nm (tkL b n p) 0 j0 ≠ -1 ∨ fnd nm (tkL b n p) 5 j1 ≠ -1 ∨ fnd nm (tkL b n p) 15 j2 ≠ -1 then .error (3, tkS b n L p) else .ok (tkL b n p, tkN b n L p) := by
      unfold pFresh
      rw [if_pos z2, hj0, hj1, hj2, Int.toNat_natCast, Int.toNat_natCast, Int.toNat_natCast]
    generalize fnd nm (tkL b n p) 0 j0 = u0 at *
    generalize fnd nm (tkL b n p) 5 j1 = u1 at *
    generalize fnd nm (tkL b n p) 15 j2 = u2 at *
    have bad : (u0 ≠ -1 ∨ u1 ≠ -1 ∨ u2 ≠ -1) → ∀ N : Mm, RF [] FG M N → N.2.1 = M.2.1 → rFl N (3, tkS b n L p) → (I 0 = I 0 ∨ I 0 = I 1) ∧ ∃ v, some (Value.int (I 0)) = some (.int v) ∧ (RF [405] FG M N ∧ N.1 405 = M.1 405 ∧ (∀ k, k ≠ to → N.2.1 405 k = M.2.1 405 k) ∧ RBo (pFresh b n L g nm p) v N fun x => RT N b n L x.2 ∧ N.2.1 405 = upf (M.2.1 405) to (J (nmR x.1))) := by
      intro hc N hF hL hN
      refine ⟨Or.inl rfl, _, rfl, hF.mono (by decide) (by decide), (hF.1 405 (by decide) (by decide)).1, fun k _ => by rw [hL], RBe (e := (3, tkS b n L p)) ?_ rfl hN⟩
      rw [eF, if_pos hc]
    rw [r0, hj0]
    refine ⟨_, _, y0, ?_⟩
    rw [I_lt (by omega) (by omega) (by omega) (by omega)]
    refine ⟨fun q0 => ?_, fun q0 => r_badT h (by decide) (bad (by omega))⟩
    rw [r1, hj1]
    refine ⟨_, _, y1, ?_⟩
    rw [I_lt (by omega) (by omega) (by omega) (by omega)]
    refine ⟨fun q1 => ?_, fun q1 => r_badT h (by decide) (bad (by omega))⟩
    rw [r2, hj2]
    refine ⟨_, _, y2, ?_⟩
    rw [I_lt (by omega) (by omega) (by omega) (by omega)]
    refine ⟨fun q2 => ?_, fun q2 => r_badT h (by decide) (bad (by omega))⟩
    rw [ixI (by omega) (by omega), Int.toNat_natCast, e7]
    refine ⟨inRI (by omega) (by omega) (by omega), ?_⟩
    have hw : RT (sL M 405 to (J (nmR (tkL b n p)))) b n L p := RT_fr h (fun k hk => rfl) rfl (sL_ne (by decide)) (sL_ne (by decide))
    refine q_non (r_nextT hw) ?_
    rintro N ⟨f1, f2⟩
    have e405 : N.2.1 405 = upf (M.2.1 405) to (J (nmR (tkL b n p))) := by
      rw [(f1.1 405 (by decide) (by decide)).2]
      show up2 M.2.1 405 to _ 405 = _
      rw [up2_eq]
    refine ⟨_, rfl, (RF_sL RF.refl (by decide)).trans (f1.mono (by decide) (by decide)), (f1.1 405 (by decide) (by decide)).1, fun k hk => by rw [e405, upf_ne hk], RBk (x := (tkL b n p, tkN b n L p)) ?_ rfl ⟨f2, e405⟩⟩
    rw [eF, if_neg (by omega)]
end RSM
