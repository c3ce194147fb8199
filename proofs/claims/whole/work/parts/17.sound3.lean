section SN3
variable {p : Program} {l : Launch} {e : Env} {R : Room} {s : State} {m : MethodId} {args : Array Value} {below : List Frame} {meth : Method} {c : Code} {Q : State → Prop}
variable {D : va_G} {ad : Nat → Nat} {cA : Nat → ClassId} {y cn d : Nat} {G : Nat → Prop} {cf sf : Nat → Nat} {pc : Nat} {L S : List Value} {M : Mm}
theorem po_inj {A : Nat → Prop} {U : State} {H : Heap} (h : Sx ad A U H) {a b : Nat} (ha : rE a) (hb : rE b) : po ad a = po ad b ↔ a = b := by
  constructor
  · intro q
    unfold po at q
    by_cases h1 : a = 0
    · by_cases h2 : b = 0
      · rw [h1, h2]
      · rw [if_pos h1, if_neg h2] at q; cases q
    · by_cases h2 : b = 0
      · rw [if_neg h1, if_pos h2] at q; cases q
      · rw [if_neg h1, if_neg h2] at q
        have ha := ha.resolve_left h1
        have hb := hb.resolve_left h2
        have hlen : wordN.length = 23 := rfl
        have := h.1.2 (a - 600) (b - 600) (by omega) (by omega) (by
          show ad (600 + (a - 600)) = ad (600 + (b - 600))
          rw [show 600 + (a - 600) = a by omega, show 600 + (b - 600) = b by omega]
          exact Option.some.inj q)
        omega
  · rintro rfl; rfl
theorem o_acmp (B : Bd p R s m args c D ad cA y cn d G cf sf) {K K2 : List Value → List Value → Mm → Prop} {t : Nat} {off : Int} {cc : Jvm.ClassFile.ACond} (hd : decode (yB y) pc = .ok (.if_acmp cc off, 3)) (ht : (pc : Int) + off = (t : Int)) (ih : ∀ L S M, K L S M → AtW p l e R s m args below meth c Q D ad cA y G cf sf (pc + 3) L S M) (ij : ∀ L S M, K2 L S M → AtW p l e R s m args below meth c Q D ad cA y G cf sf t L S M)
    (h : popA S fun y r => popA r fun x r => rE x ∧ rE y ∧ (cmpA cc x y → K2 L r M) ∧ (¬ cmpA cc x y → K L r M)) : AtW p l e R s m args below meth c Q D ad cA y G cf sf pc L S M := by
  obtain ⟨b, r1, rfl, h1⟩ := popA_e h
  obtain ⟨a, r, rfl, ha, hb, h2, h3⟩ := popA_e h1
  have hi := po_inj B.2.2.2.2.2.2.2.1 ha hb
  intro hg H locs ls hl hP hS
  cases cc with
  | eq => exact lv_acmp_eq B.1 B.2.1 hd ht (fun q => ij _ _ _ (h2 (hi.mp q)) hg H locs ls hl hP hS) (fun q => ih _ _ _ (h3 (fun z => q (hi.mpr z))) hg H locs ls hl hP hS)
  | ne => exact lv_acmp_ne B.1 B.2.1 hd ht (fun q => ij _ _ _ (h2 (fun z => q (hi.mpr z))) hg H locs ls hl hP hS) (fun q => ih _ _ _ (h3 (fun z => z (hi.mp q))) hg H locs ls hl hP hS)
theorem swT_e {k : Nat → Prop} {x : Int32} {dflt : Nat} : ∀ {ts : List Nat} {lo : Int} {P : Prop}, swT k x lo dflt P ts → P → (∃ (j t : Nat), ts[j]? = some t ∧ x = I (lo + j) ∧ k t) ∨ ((∀ j : Nat, j < ts.length → x ≠ I (lo + j)) ∧ k dflt) := by
  intro ts
  induction ts with
  | nil => intro lo P h hp; exact Or.inr ⟨fun j hj => absurd hj (Nat.not_lt_zero j), h hp⟩
  | cons t r ih =>
    intro lo P h hp
    by_cases hx : x = I lo
    · exact Or.inl ⟨0, t, rfl, by rw [hx]; simp, h.1 hx⟩
    · rcases ih h.2 ⟨hx, hp⟩ with ⟨j, t', h1, h2, h3⟩ | ⟨h1, h2⟩
      · exact Or.inl ⟨j + 1, t', h1, by rw [h2]; congr 1; push_cast; omega, h3⟩
      · refine Or.inr ⟨fun j hj => ?_, h2⟩
        cases j with
        | zero => simpa using hx
        | succ j =>
          have := h1 j (by simpa using hj)
          intro q
          apply this
          rw [q]
          congr 1
          push_cast
          omega
theorem I_toInt {z : Int} (h1 : -2147483648 ≤ z) (h2 : z < 2147483648) : (I z).toInt = z := by
  show (Int32.ofInt z).toInt = z
  rw [Int32.toInt_ofInt]
  have hs : Int32.size = 4294967296 := rfl
  exact Int.bmod_eq_of_le (by omega) (by omega)
theorem I_of_toInt (x : Int32) : I x.toInt = x := Int32.ofInt_toInt x
theorem o_table (B : Bd p R s m args c D ad cA y cn d G cf sf) {K2 : Nat → List Value → List Value → Mm → Prop} {dflt lo hi : Int} {offs : Array Int} {len td : Nat} {ts : List Nat} (hd : decode (yB y) pc = .ok (.tableswitch dflt lo hi offs, len)) (htd : (pc : Int) + dflt = (td : Int)) (h0 : 0 ≤ lo) (h9 : hi < 1000) (hlen : (ts.length : Int) = hi - lo + 1) (hts : ∀ (j t : Nat), ts[j]? = some t → ∃ off, offs[j]? = some off ∧ (pc : Int) + off = (t : Int)) (ij : ∀ t, (t = td ∨ t ∈ ts) → ∀ L S M, K2 t L S M → AtW p l e R s m args below meth c Q D ad cA y G cf sf t L S M)
    (h : popI S fun x r => swT (fun t => K2 t L r M) x lo td True ts) : AtW p l e R s m args below meth c Q D ad cA y G cf sf pc L S M := by
  obtain ⟨x, r, rfl, h1⟩ := popI_e h
  intro hg H locs ls hl hP hS
  rcases swT_e h1 trivial with ⟨j, t, g1, g2, g3⟩ | ⟨g1, g2⟩
  · obtain ⟨off, k1, k2⟩ := hts j t g1
    have hj : j < ts.length := (List.getElem?_eq_some_iff.mp g1).1
    have hx : x.toInt = lo + j := by rw [g2]; exact I_toInt (by omega) (by omega)
    exact lv_tableIn B.1 B.2.1 hd (by omega) (by omega) (by rw [hx, show (lo + (j : Int) - lo).toNat = j by omega]; exact k1) k2 (ij t (Or.inr (List.mem_of_getElem? g1)) _ _ _ g3 hg H locs ls hl hP hS)
  · refine lv_tableOut B.1 B.2.1 hd ?_ htd (ij td (Or.inl rfl) _ _ _ g2 hg H locs ls hl hP hS)
    by_cases q1 : x.toInt < lo
    · exact Or.inl q1
    · by_cases q2 : hi < x.toInt
      · exact Or.inr q2
      · exact absurd (by rw [show lo + ((x.toInt - lo).toNat : Int) = x.toInt by omega]; exact (I_of_toInt x).symm) (g1 (x.toInt - lo).toNat (by omega))
theorem o_look2 (B : Bd p R s m args c D ad cA y cn d G cf sf) {K2 : Nat → List Value → List Value → Mm → Prop} {dflt o0 o1 : Int} {len td t0 t1 : Nat} (hd : decode (yB y) pc = .ok (.lookupswitch dflt #[(0, o0), (1, o1)], len)) (htd : (pc : Int) + dflt = (td : Int)) (ht0 : (pc : Int) + o0 = (t0 : Int)) (ht1 : (pc : Int) + o1 = (t1 : Int)) (ij : ∀ t, (t = td ∨ t ∈ [t0, t1]) → ∀ L S M, K2 t L S M → AtW p l e R s m args below meth c Q D ad cA y G cf sf t L S M)
    (h : popI S fun x r => swT (fun t => K2 t L r M) x 0 td True [t0, t1]) : AtW p l e R s m args below meth c Q D ad cA y G cf sf pc L S M := by
  obtain ⟨x, r, rfl, h1, h2, h3⟩ := popI_e h
  intro hg H locs ls hl hP hS
  by_cases q0 : x = I 0
  · refine lv_lookup B.1 B.2.1 hd (by simp) (off := o0) ?_ ht0 (ij t0 (by simp) _ _ _ (h1 q0) hg H locs ls hl hP hS)
    rw [q0]; rfl
  · by_cases q1 : x = I 1
    · refine lv_lookup B.1 B.2.1 hd (by simp) (off := o1) ?_ ht1 (ij t1 (by simp) _ _ _ (h2 q1) hg H locs ls hl hP hS)
      rw [q1]; rfl
    · refine lv_lookup B.1 B.2.1 hd (by simp) (off := dflt) ?_ htd (ij td (by simp) _ _ _ (h3 ⟨q1, q0, trivial⟩) hg H locs ls hl hP hS)
      have e0 : ¬ x.toInt = 0 := fun q => q0 (by rw [← I_of_toInt x, q])
      have e1 : ¬ x.toInt = 1 := fun q => q1 (by rw [← I_of_toInt x, q])
      simp [Op.lookupswitch.offset, Ne.symm e0, Ne.symm e1, eq_comm]
/-! fields -/
set_option maxRecDepth 100000 in
theorem inX_all : ∀ ci, ci < 12 → (List.range (cq ci).2.2).all (fun k => inP ((LQ.getD ci []).getD k 0) (u_lay (cq ci).1 (cq ci).2.1 k)) = true := by decide +kernel
theorem inX_cq {ci : Nat} (h : ci < 12) : ∀ w ∈ u_ws (cq ci).1 (cq ci).2.1 (cq ci).2.2, w ∈ gtb := by
  intro w hw
  unfold u_ws at hw
  obtain ⟨k, hk, rfl⟩ := List.mem_map.mp hw
  exact inP_gtb (List.all_eq_true.mp (inX_all ci h) k hk)
theorem cl_cq {ci : Nat} (h : ci < 12) : vwCl[ci]? = some (cq ci) := by
  unfold cq
  rw [List.getD_eq_getElem?_getD, List.getElem?_eq_getElem (show ci < vwCl.length from h)]
  rfl
theorem ent_obj {ci a : Nat} (hci : ci < 12) (h : lay a = ci + 1) : ent ad cA M a = .inr (ci, flds ad M a ci) := by
  unfold ent
  rw [if_pos (by omega), h]
  rfl
theorem flds_at {a ci k : Nat} (hk : k < (cq ci).2.2) : (flds ad M a ci)[k]? = some (fv ad M a k ((FT.getD ci []).getD k [])) := by
  unfold flds
  rw [List.getElem?_map, List.getElem?_range hk]
  rfl
theorem flds_len {a ci : Nat} : (flds ad M a ci).length = (cq ci).2.2 := by
  unfold flds
  simp
theorem o_get (B : Bd p R s m args c D ad cA y cn d G cf sf) {K : List Value → List Value → Mm → Prop} {idx ci k a : Nat} {t : List Nat} {r : List Value} (hd : decode (yB y) pc = .ok (.getfield idx, 3)) (hlk : Cond.fieldLink (Rn cn) idx (cq ci).1 ((cq ci).2.1 k).2.1 ((cq ci).2.1 k).2.2.1 ∈ gtb) (hk : k < (cq ci).2.2) (hci : ci < 12) (hT : (FT.getD ci []).getD k [] = t) (hown : ((cq ci).2.1 k).1 = (cq ci).1)
    (hlay : lay a = ci + 1) {v : Value} (hv : pv ad v = fv ad M a k t) (ih : ∀ L S M, K L S M → AtW p l e R s m args below meth c Q D ad cA y G cf sf (pc + 3) L S M) (h : K L (v :: r) M) : AtW p l e R s m args below meth c Q D ad cA y G cf sf pc L (.ref a :: r) M := by
  intro hg H locs ls hl hP hS
  have ha : lay a ≠ 0 := by omega
  obtain ⟨q, hq, hw⟩ := wsM_at (ad := ad) (cA := cA) ha
  have h2 := ih _ _ _ h hg H locs ls hl hP hS
  rw [List.map_cons, hv] at h2
  rw [List.map_cons, pv_ref (dom_pos a (lay_dom ha))]
  refine va_get (C := (cq ci).1) (T := (cq ci).2.1) (N := (cq ci).2.2) (Ts := gtb) B.1 B.2.1 B.2.2.2.2.1 (inX_cq hci) B.2.2.2.1 B.2.2.2.2.2.1 hP q (by rw [hw, ent_obj hci hlay]) (cl_cq hci) k hk (B.2.2.2.2.1 _ hlk) ?_ ?_ hd h2
  · intro x hx
    rw [hown] at hx
    exact hx
  · rw [flds_at hk, hT]
theorem ent_put {a ci k : Nat} {M' : Mm} (hci : ci < 12) (hlay : lay a = ci + 1) (hk : k < (cq ci).2.2) {v : Value} (hv : v = fv ad M' a k ((FT.getD ci []).getD k [])) (ho : ∀ j, j ≠ k → fv ad M' a j ((FT.getD ci []).getD j []) = fv ad M a j ((FT.getD ci []).getD j [])) : (.inr (ci, (flds ad M a ci).set k v) : va_E) = ent ad cA M' a := by
  rw [ent_obj hci hlay]
  congr 2
  apply List.ext_getElem?
  intro j
  rw [List.getElem?_set]
  by_cases hj : k = j
  · subst hj
    rw [if_pos rfl, if_pos (by rw [flds_len]; exact hk), flds_at hk, hv]
  · rw [if_neg hj]
    by_cases hl : j < (cq ci).2.2
    · rw [flds_at hl, flds_at hl, ho j (fun q => hj q.symm)]
    · rw [List.getElem?_eq_none (by rw [flds_len]; omega), List.getElem?_eq_none (by rw [flds_len]; omega)]
theorem tyq_ok {ci : Nat} (hci : ci < 12) : ∀ k, k < (cq ci).2.2 → parseFieldDescriptor ((cq ci).2.1 k).2.2.1 = some (tyq ci k) := by
  rcases (show ci = 0 ∨ ci = 1 ∨ ci = 2 ∨ ci = 3 ∨ ci = 4 ∨ ci = 5 ∨ ci = 6 ∨ ci = 7 ∨ ci = 8 ∨ ci = 9 ∨ ci = 10 ∨ ci = 11 by omega) with rfl | rfl | rfl | rfl | rfl | rfl | rfl | rfl | rfl | rfl | rfl | rfl
  · exact tyX1_ok
  · exact tyX2_ok
  · exact tyX3_ok
  · exact tyX4_ok
  · exact tyX5_ok
  · exact tyX6_ok
  · exact tyX7_ok
  · exact tyX8_ok
  · exact tyX9_ok
  · exact tyX10_ok
  · exact tyX12_ok
  · exact tyX13_ok
theorem nmq_ok {ci : Nat} (hci : ci < 12) : ∀ a, a < (cq ci).2.2 → ∀ b, b < (cq ci).2.2 → a ≠ b → ((cq ci).2.1 a).2.1 ≠ ((cq ci).2.1 b).2.1 := by
  rcases (show ci = 0 ∨ ci = 1 ∨ ci = 2 ∨ ci = 3 ∨ ci = 4 ∨ ci = 5 ∨ ci = 6 ∨ ci = 7 ∨ ci = 8 ∨ ci = 9 ∨ ci = 10 ∨ ci = 11 by omega) with rfl | rfl | rfl | rfl | rfl | rfl | rfl | rfl | rfl | rfl | rfl | rfl
  · exact nmX1
  · exact nmX2
  · exact nmX3
  · exact nmX4
  · exact nmX5
  · exact nmX6
  · exact nmX7
  · exact nmX8
  · exact nmX9
  · exact nmX10
  · exact nmX12
  · exact nmX13
theorem o_put (B : Bd p R s m args c D ad cA y cn d G cf sf) {K : List Value → List Value → Mm → Prop} {idx ci k a : Nat} {r : List Value} {M' : Mm} (hd : decode (yB y) pc = .ok (.putfield idx, 3)) (hlk : Cond.fieldLink (Rn cn) idx (cq ci).1 ((cq ci).2.1 k).2.1 ((cq ci).2.1 k).2.2.1 ∈ gtb) (hk : k < (cq ci).2.2) (hci : ci < 12) (hown : ((cq ci).2.1 k).1 = (cq ci).1) (hfin : ((cq ci).2.1 k).2.2.2 = false)
    (hlay : lay a = ci + 1) {v : Value} (hv : pv ad v = fv ad M' a k ((FT.getD ci []).getD k [])) (ho : ∀ j, j ≠ k → fv ad M' a j ((FT.getD ci []).getD j []) = fv ad M a j ((FT.getD ci []).getD j [])) (hb : ∀ b, b ≠ a → ent ad cA M' b = ent ad cA M b) (hgh : gh M' = gh M) (hn : narrow (tyq ci k) (pv ad v) = pv ad v) (hfit : fits (tyq ci k) (pv ad v) = true)
    (ih : ∀ L S M, K L S M → AtW p l e R s m args below meth c Q D ad cA y G cf sf (pc + 3) L S M) (h : K L r M') : AtW p l e R s m args below meth c Q D ad cA y G cf sf pc L (v :: .ref a :: r) M := by
  intro hg H locs ls hl hP hS
  have ha : lay a ≠ 0 := by omega
  obtain ⟨q, hq, hw⟩ := wsM_at (ad := ad) (cA := cA) ha
  have h2 := ih _ _ _ h (by rw [hgh]; exact hg)
  rw [hgh] at h2
  rw [List.map_cons, List.map_cons, pv_ref (dom_pos a (lay_dom ha))]
  refine va_put (C := (cq ci).1) (T := (cq ci).2.1) (N := (cq ci).2.2) (Ts := gtb) (ty := tyq ci k) B.1 B.2.1 B.2.2.2.2.1 (inX_cq hci) (tyq ci) (tyq_ok hci) (nmq_ok hci) B.2.2.2.1 B.2.2.2.2.2.1 hP B.dd hS q (by rw [hw, ent_obj hci hlay]) (cl_cq hci) k hk (B.2.2.2.2.1 _ hlk) ?_ hfin (tyq_ok hci k hk) hn hfit (by rw [flds_len]; exact hk) hd ?_
  · intro x hx
    rw [hown] at hx
    exact hx
  · intro H1 locs1 hP1 _ hS1
    rw [wsM_set hq (ent_put hci hlay hk hv ho) hb] at hP1
    exact h2 H1 locs1 ls hl hP1 hS1
end SN3
