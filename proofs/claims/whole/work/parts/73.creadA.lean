/-! ===== a street's text: the class's reader ===== -/
def FS (ps : Nat) (M N : Mm) : Prop := ∀ a, a ≠ 2 → a ≠ 4 → ¬ (ps ≤ a ∧ a < ps + 17) → N.1 a = M.1 a ∧ N.2.1 a = M.2.1 a ∧ N.2.2 a = M.2.2 a
theorem FS_refl {ps : Nat} {M : Mm} : FS ps M M := fun _ _ _ _ => ⟨rfl, rfl, rfl⟩
theorem FS_trans {ps : Nat} {M N O : Mm} (h : FS ps M N) (k : FS ps N O) : FS ps M O := fun a h1 h2 h3 => ⟨(k a h1 h2 h3).1.trans (h a h1 h2 h3).1, (k a h1 h2 h3).2.1.trans (h a h1 h2 h3).2.1, (k a h1 h2 h3).2.2.trans (h a h1 h2 h3).2.2⟩
theorem FS_f {ps : Nat} {M N O : Mm} (h : FS ps M N) (k : Fr 2 3 N O) : FS ps M O := FS_trans h fun a h1 _ _ => k a (by omega)
theorem FS_i {ps a k : Nat} {v : Int32} {M N : Mm} (h : FS ps M N) (ha : a = 2 ∨ a = 4 ∨ (ps ≤ a ∧ a < ps + 17)) : FS ps M (sI N a k v) := FS_trans h fun c h1 h2 h3 => ⟨mI_fn (by omega), rfl, rfl⟩
theorem FS_l {ps a k : Nat} {v : Int64} {M N : Mm} (h : FS ps M N) (ha : a = 2 ∨ a = 4 ∨ (ps ≤ a ∧ a < ps + 17)) : FS ps M (sL N a k v) := FS_trans h fun c h1 h2 h3 => ⟨rfl, sL_ne (by omega), rfl⟩
/-- the street that is being read -/
def CI (M : Mm) (ps : Nat) (g : Nat → Int) (nm : Nat → List Nat) (on : Nat) : Prop := CSr M ps g ∧ CNm M ps g nm ∧ M.2.2 4 1 = ps ∧ M.1 4 2 = I (bt on 0) ∧ M.1 4 3 = I (bt on 1) ∧ M.1 4 4 = I (bt on 2)
theorem St_lo {ps : Nat} (h : St ps) : 100 ≤ ps := by
  rcases h with rfl | rfl | rfl | rfl <;> decide
theorem St_al {ps : Nat} (h : St ps) : (lay (ps + 1) = 101 ∧ alen (ps + 1) = 5) ∧ (lay (ps + 3) = 101 ∧ alen (ps + 3) = 10) ∧ (lay (ps + 7) = 101 ∧ alen (ps + 7) = 6) ∧ Pr (ps + 11) 6 ∧ Pr (ps + 14) 8 := by
  rcases h with rfl | rfl | rfl | rfl <;> refine ⟨by decide, by decide, by decide, ?_, ?_⟩ <;> simp [Pr]
theorem CI_fr {M N : Mm} {ps on : Nat} {g : Nat → Int} {nm : Nat → List Nat} (h : CI M ps g nm on) (hp : St ps) (hF : Fr 2 3 M N) : CI N ps g nm on := by
  have := St_lo hp
  obtain ⟨h1, h2, h3, h4, h5, h6⟩ := h
  refine ⟨h1.of fun a x1 x2 => (hF a (by omega)).1, CNm_fr h2 fun a x1 x2 => (hF a (by omega)).2.1, ?_, ?_, ?_, ?_⟩
  · rw [(hF 4 (by omega)).2.2]
    exact h3
  · rw [(hF 4 (by omega)).1]
    exact h4
  · rw [(hF 4 (by omega)).1]
    exact h5
  · rw [(hF 4 (by omega)).1]
    exact h6
theorem cFl_fr {M N : Mm} {e : Int × Nat} (h : cFl M e) (h2 : N.1 2 = M.1 2) : cFl N e := by
  unfold cFl at h ⊢
  rw [h2]
  exact h
section CRD
variable {M : Mm} {b : Nat → Nat} {n L p ps on : Nat} {g : Nat → Int} {nm : Nat → List Nat}
theorem c_knows {d : Nat} {l : List Nat} (hp : St ps) (hr : CSr M ps g) (hn : CNm M ps g nm) (hs : RGs g) (hm : NMo g nm) (hl : nmOk l) : Ev (d + 2) 233 [.ref ps, .long (J (nmC l))] M (some (.int (I (if fnd nm l 0 (g 0).toNat ≠ -1 ∨ fnd nm l 5 (g 1).toNat ≠ -1 ∨ fnd nm l 15 (g 2).toNat ≠ -1 then 1 else 0)))) M := by
  have hs1 := hs.1
  obtain ⟨x1, x2, x3, -⟩ := St_al hp
  obtain ⟨k0, hk0⟩ := Nn hs1.1.1
  obtain ⟨k1, hk1⟩ := Nn hs1.2.1.1
  obtain ⟨k2, hk2⟩ := Nn hs1.2.2.1.1
  have b0 := fnd_b (nm := nm) (l := l) (f := 0) (m := k0)
  have b1 := fnd_b (nm := nm) (l := l) (f := 5) (m := k1)
  have b2 := fnd_b (nm := nm) (l := l) (f := 15) (m := k2)
  apply Ev.ofQ
  apply e_Street_knows hp
  intro At _
  rw [hr.1.1, hk0, hk1, hk2, Int.toNat_natCast, Int.toNat_natCast, Int.toNat_natCast]
  have y0 := c_indexOf (d := d) (M := M) (nm := nm) (f := 0) (many := k0) x1.1 (by omega) (by omega) (fun k hk => ⟨by rw [Nat.zero_add]; exact hn.1 k (by omega), by rw [Nat.zero_add]; exact hm.1 k (by omega)⟩) hl
  have y1 := c_indexOf (d := d) (M := M) (nm := nm) (f := 5) (many := k1) x2.1 (by omega) (by omega) (fun k hk => ⟨hn.2.1 k (by omega), hm.2.1 k (by omega)⟩) hl
  have y2 := c_indexOf (d := d) (M := M) (nm := nm) (f := 15) (many := k2) x3.1 (by omega) (by omega) (fun k hk => ⟨hn.2.2 k (by omega), hm.2.2 k (by omega)⟩) hl
  generalize fnd nm l 0 k0 = z0 at *
  generalize fnd nm l 5 k1 = z1 at *
  generalize fnd nm l 15 k2 = z2 at *
  refine ⟨_, _, y0, ?_⟩
  rw [I_ne (by omega) (by omega) (by omega) (by omega)]
  refine ⟨fun q0 => ?_, fun q0 => ?_⟩
  · rw [hr.1.2.1, hk1]
    refine ⟨_, _, y1, ?_⟩
    rw [I_ne (by omega) (by omega) (by omega) (by omega)]
    refine ⟨fun q1 => ?_, fun q1 => ?_⟩
    · rw [hr.1.2.2.1, hk2]
      refine ⟨_, _, y2, ?_⟩
      rw [I_ne (by omega) (by omega) (by omega) (by omega)]
      refine ⟨fun q2 => ?_, fun q2 => ?_⟩
      · rw [if_neg (by omega)]
        exact ⟨rfl, rfl⟩
      · rw [if_pos (by omega)]
        exact ⟨rfl, rfl⟩
    · rw [if_pos (by omega)]
      exact ⟨rfl, rfl⟩
  · rw [if_pos (by omega)]
    exact ⟨rfl, rfl⟩
theorem c_takeNewName {d : Nat} (h : CT M b n L p) (hI : CI M ps g nm on) (hp : St ps) (hs : RGs g) (hm : NMo g nm) : EvQ (d + 4) 251 [.ref 4] M fun r N => ∃ v, r = some (.int v) ∧ (Fr 2 3 M N ∧ PBo (pFresh b n L g nm p) v N fun x => CT N b n L x.2) := by
  have w2 := tkW_2 (b := b) (n := n) (L := L) (p := p)
  obtain ⟨k1, k2, k3, k4⟩ := tk_four (b := b) (L := L) h.1.2.2.2.1
  apply e_StreetReader_takeNewName
  intro At _
  refine ⟨_, _, c_atName h, fun z => ?_, fun z => ?_⟩
  · rw [bI0] at z
    refine c_failT h (by decide) fun N hF hN => ⟨Or.inl rfl, _, rfl, hF, PBe (e := (1, tkS b n L p)) ?_ rfl hN⟩
    unfold pFresh
    rw [if_neg z]
  · have z2 : tkW b n L p = 23 := Classical.byContradiction fun y => z (by rw [bI0]; exact y)
    have z3 : tkK b n L p = 2 := w2.mp (by omega)
    rw [hI.2.2.1, h.2.2.2.2.2.1 z3]
    refine ⟨hp, _, _, c_knows hp hI.1 hI.2.1 hs hm (k2 z3).1, fun q => ?_, fun q => ?_⟩
    · rw [bI0] at q
      refine q_non (c_nextT h) ?_
      rintro N ⟨f1, f2⟩
      refine ⟨_, rfl, f1, PBk (x := (tkL b n p, tkN b n L p)) ?_ rfl f2⟩
      unfold pFresh
      rw [if_pos z2, if_neg q]
    · refine c_failT h (by decide) fun N hF hN => ⟨Or.inl rfl, _, rfl, hF, PBe (e := (3, tkS b n L p)) ?_ rfl hN⟩
      unfold pFresh
      rw [if_pos z2, if_pos (Classical.byContradiction fun y => q (by rw [bI0]; exact y))]
theorem c_addWall {d k : Nat} {x : Int64} {y : Int32} (hp : St ps) (e : M.1 ps 2 = I (k : Int)) (hk : k < 5) : Ev (d + 1) 234 [.ref ps, .long x, .int y] M none (sI (sI (sL M (ps + 1) k x) (ps + 2) k y) ps 2 (I ((k : Int) + 1))) := by
  apply Ev.ofQ
  apply e_Street_addWall hp
  intro At _
  rw [mI_n1 (show ps ≠ ps + 2 by omega), sL_1, e, I_lt (by omega) (by omega) (by omega) (by omega), ixI (by omega) (by omega), Int.toNat_natCast, I_add]
  refine ⟨fun _ => ⟨inRI (by omega) (by omega) (by omega), inRI (by omega) (by omega) (by omega), fun N2 hN => ⟨rfl, hN⟩⟩, fun q => absurd (by omega) q⟩
theorem CI_wall {x : Int64} {k : Nat} {y : Int} {l : List Nat} (hs : RGs g) (hp : St ps) (h : CI M ps g nm on) (e : g 0 = k) (hk : k < 5) (hx : x = J (nmC l)) : CI (sI (sI (sL M (ps + 1) k x) (ps + 2) k (I y)) ps 2 (I ((k : Int) + 1))) ps (upf (upf g (8 + k) y) 0 ((k : Int) + 1)) (upf nm k l) on := by
  have hlo := St_lo hp
  have hs1 := hs.1
  obtain ⟨⟨s1, s2, s3, s4, s5, s6⟩, ⟨m1, m2, m3⟩, r1, r2, r3, r4⟩ := h
  refine ⟨⟨?_, fun w hw => ?_, fun w hw => ?_, fun w hw => ?_, fun w hw => ?_, fun w hw => ?_⟩, ⟨fun w hw => ?_, fun w hw => ?_, fun w hw => ?_⟩, r1, ?_, ?_, ?_⟩
  · simp (disch := omega) only [mI_eq, mI_n1, mI_n2, upf_eq, upf_ne, sL_1]
    exact ⟨trivial, s1.2⟩
  · rw [upf_eq] at hw
    by_cases c : w = k
    · subst c
      simp (disch := omega) only [mI_eq, mI_n1, mI_n2, upf_eq, upf_ne, sL_1] <;> exact ⟨trivial, trivial, trivial⟩
    · simp (disch := omega) only [mI_eq, mI_n1, mI_n2, upf_eq, upf_ne, sL_1]
      exact s2 w (by omega)
  · simp (disch := omega) only [upf_eq, upf_ne] at hw
    simp (disch := omega) only [mI_eq, mI_n1, mI_n2, upf_eq, upf_ne, sL_1]
    exact s3 w hw
  · simp (disch := omega) only [upf_eq, upf_ne] at hw
    simp (disch := omega) only [mI_eq, mI_n1, mI_n2, upf_eq, upf_ne, sL_1]
    exact s4 w hw
  · simp (disch := omega) only [upf_eq, upf_ne] at hw
    simp (disch := omega) only [mI_eq, mI_n1, mI_n2, upf_eq, upf_ne, sL_1]
    exact s5 w hw
  · simp (disch := omega) only [upf_eq, upf_ne] at hw
    simp (disch := omega) only [mI_eq, mI_n1, mI_n2, upf_eq, upf_ne, sL_1]
    exact s6 w hw
  · rw [upf_eq] at hw
    show (sL M (ps + 1) k x).2.1 (ps + 1) w = _
    by_cases c : w = k
    · subst c
      rw [sL_eq, upf_eq]
      exact hx
    · rw [sL_n2 c, upf_ne (by omega)]
      exact m1 w (by omega)
  · simp (disch := omega) only [upf_ne] at hw
    show (sL M (ps + 1) k x).2.1 (ps + 3) w = _
    rw [sL_ne (by omega), upf_ne (by omega)]
    exact m2 w hw
  · simp (disch := omega) only [upf_ne] at hw
    show (sL M (ps + 1) k x).2.1 (ps + 7) w = _
    rw [sL_ne (by omega), upf_ne (by omega)]
    exact m3 w hw
  · simp (disch := omega) only [mI_n1, sL_1]
    exact r2
  · simp (disch := omega) only [mI_n1, sL_1]
    exact r3
  · simp (disch := omega) only [mI_n1, sL_1]
    exact r4
theorem c_readWall {d : Nat} (h : CT M b n L p) (hI : CI M ps g nm on) (hp : St ps) (hs : RGs g) (hm : NMo g nm) : EvQ (d + 5) 247 [.ref 4] M fun r N => ∃ v, r = some (.int v) ∧ (FS ps M N ∧ PBo (lnWall b n L g nm on p) v N fun x => CT N b n L x.2 ∧ CI N ps x.1.1 x.1.2.1 x.1.2.2) := by
  have h0 := hs.1.1
  have hlo := St_lo hp
  apply e_StreetReader_readWall
  intro At _
  rw [hI.2.2.1, hI.1.1.1, I_lt (by omega) (by omega) (by omega) (by omega)]
  refine ⟨hp, fun q => ?_, fun q => ?_⟩
  · have hne : ¬ g 0 = 5 := by omega
    refine q_non (c_nextT h) ?_
    rintro N2 ⟨f1, t1⟩
    have I2 := CI_fr hI hp f1
    refine q_int (c_takeNewName t1 I2 hp hs hm) ?_
    rintro v N4 ⟨f2, e1, e2⟩
    rcases pe_cases (pFresh b n L g nm (tkN b n L p)) with ⟨e, he⟩ | ⟨x, hx⟩
    · obtain ⟨rfl, w⟩ := e1 e he
      refine ⟨fun _ => ⟨_, rfl, FS_f (FS_f FS_refl f1) f2, PBe (e := e) ?_ rfl w⟩, fun z => absurd rfl z⟩
      unfold lnWall
      rw [if_neg hne, bnd_e he]
    · obtain ⟨rfl, t2⟩ := e2 x hx
      refine ⟨fun z => absurd z (by decide), fun _ => ?_⟩
      refine q_int (c_takeNumber t2 (by decide) (by decide)) ?_
      rintro v N9 ⟨f3, e3, e4⟩
      have I9 := CI_fr (CI_fr I2 hp f2) hp f3
      have F9 : FS ps M N9 := FS_f (FS_f (FS_f FS_refl f1) f2) f3
      obtain ⟨a1, a2, a3⟩ := pFresh_ok hx
      obtain ⟨k, hk⟩ := Nn h0.1
      have l7 := t1.2.2.2.2.2.1 a1
      rw [I9.2.2.1, l7, ← a2]
      have I9w := I9.1.1.1
      rw [hk] at I9w
      refine ⟨hp, _, c_addWall hp I9w (by omega), ?_⟩
      have F13 : ∀ (x : Int64) (y z : Int32), FS ps M (sI (sI (sL N9 (ps + 1) k x) (ps + 2) k y) ps 2 z) := fun x y z => FS_i (FS_i (FS_l F9 (by omega)) (by omega)) (by omega)
      have e13 : ∀ (x : Int64) (y z : Int32), (sI (sI (sL N9 (ps + 1) k x) (ps + 2) k y) ps 2 z).1 2 = N9.1 2 := fun x y z => by rw [mI_fn (by omega), mI_fn (by omega), sL_1]
      rcases pe_cases (pNum b n L 1 20 x.2) with ⟨e, he⟩ | ⟨y, hy⟩
      · obtain ⟨rfl, w⟩ := e3 e he
        refine ⟨fun _ => ⟨_, rfl, F13 _ _ _, PBe (e := e) ?_ rfl (cFl_fr w (e13 _ _ _))⟩, fun z => absurd rfl z⟩
        unfold lnWall
        rw [if_neg hne, bnd_o hx, bnd_e he]
      · obtain ⟨rfl, t3, y1, y2⟩ := e4 y hy
        rw [I_ne (by omega) (by omega) (by omega) (by omega)]
        refine ⟨fun z => absurd z (by omega), fun _ => ⟨_, rfl, F13 _ _ _, PBk (x := ((upf (upf g (8 + (g 0).toNat) y.1) 0 (g 0 + 1), upf nm (g 0).toNat x.1, on), y.2)) ?_ rfl ?_⟩⟩
        · unfold lnWall
          rw [if_neg hne, bnd_o hx, bnd_o hy]
        · rw [hk, Int.toNat_natCast]
          exact ⟨CT_fr t3 (e13 _ _ _) (by rw [mI_fn (by omega), mI_fn (by omega), sL_1]) (by show (sL N9 (ps + 1) k _).2.1 2 = _; rw [sL_ne (by omega)]) rfl, CI_wall hs hp I9 hk (by omega) rfl⟩
  · refine c_failT h (by decide) fun N hF hN => ⟨Or.inl rfl, _, rfl, FS_f FS_refl hF, PBe (e := (4, tkS b n L p)) ?_ rfl hN⟩
    unfold lnWall
    rw [if_pos (by omega)]
end CRD
