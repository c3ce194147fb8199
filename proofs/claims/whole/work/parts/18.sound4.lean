section SN4
variable {p : Program} {l : Launch} {e : Env} {R : Room} {s : State} {m : MethodId} {args : Array Value} {below : List Frame} {meth : Method} {c : Code} {Q : State → Prop}
variable {D : va_G} {ad : Nat → Nat} {cA : Nat → ClassId} {y cn d : Nat} {G : Nat → Prop} {cf sf : Nat → Nat} {pc : Nat} {L S : List Value} {M : Mm}
theorem o_gets (B : Bd p R s m args c D ad cA y cn d G cf sf) {K : List Value → List Value → Mm → Prop} {idx b : Nat} {C n ds : String} (hd : decode (yB y) pc = .ok (.getstatic idx, 3)) (hlk : Cond.fieldLink (Rn cn) idx C n ds ∈ gtb) (hz : va_Z C n ds (.ref (ad b)) (AA ad s.heap.size) s s.heap) (hb : b ≠ 0) (ih : ∀ L S M, K L S M → AtW p l e R s m args below meth c Q D ad cA y G cf sf (pc + 3) L S M) (h : K L (.ref b :: S) M) : AtW p l e R s m args below meth c Q D ad cA y G cf sf pc L S M := by
  intro hg H locs ls hl hP hS
  have h2 := ih _ _ _ h hg H locs ls hl hP hS
  rw [List.map_cons, pv_ref hb] at h2
  exact va_gets B.1 B.2.1 hz hS B.2.2.2.1 (B.2.2.2.2.1 _ hlk) (fun _ q => q) hd h2
theorem o_pack (B : Bd p R s m args c D ad cA y cn d G cf sf) {K : List Value → List Value → Mm → Prop} {idx a : Nat} {r : List Value} (hd : decode (yB y) pc = .ok (.getfield idx, 3)) (hlk : Cond.fieldLink (Rn cn) idx RX11 "packed" "J" ∈ gtb) (ha : 600 ≤ a ∧ a < 623) (ih : ∀ L S M, K L S M → AtW p l e R s m args below meth c Q D ad cA y G cf sf (pc + 3) L S M) (h : K L (.long (pkTab (a - 600)) :: r) M) : AtW p l e R s m args below meth c Q D ad cA y G cf sf pc L (.ref a :: r) M := by
  intro hg H locs ls hl hP hS
  have h2 := ih _ _ _ h hg H locs ls hl hP hS
  rw [List.map_cons, pv_ref (by omega)]
  have hE := B.2.2.2.2.2.2.2.1.2.1
  have h3 := va_getX (i := a - 600) (rest := r.map (pv ad)) B.1 B.2.1 hE (by omega) hS B.2.2.2.1 (B.2.2.2.2.1 _ hlk) (fun _ q => q) hd h2
  rw [show 600 + (a - 600) = a by omega] at h3
  exact h3
/-! arrays -/
theorem ent_100 {a : Nat} (h : lay a = 100) : ent ad cA M a = .inl (cA 0, alen a, .inl (M.1 a)) := by unfold ent; rw [h]; rfl
theorem ent_101 {a : Nat} (h : lay a = 101) : ent ad cA M a = .inl (cA 1, alen a, .inr (.inl (M.2.1 a))) := by unfold ent; rw [h]; rfl
theorem ent_102 {a : Nat} (h : lay a = 102) : ent ad cA M a = .inl (cA 2, alen a, .inl (M.1 a)) := by unfold ent; rw [h]; rfl
theorem ent_103 {a : Nat} (h : lay a = 103) : ent ad cA M a = .inl (cA 3, alen a, .inl (M.1 a)) := by unfold ent; rw [h]; rfl
theorem ent_104 {a : Nat} (h : lay a = 104) : ent ad cA M a = .inl (cA 4, alen a, .inr (.inr (.inr (.inr fun j => po ad (M.2.2 a j))))) := by unfold ent; rw [h]; rfl
theorem ent_const {a : Nat} (h : 105 ≤ lay a) : ent ad cA M a = .inl (cA (lay a - 100), alen a, .inr (.inr (.inr (.inr fun j => some (ad ((cbs a).1 + (cbs a).2 * j)))))) := by
  unfold ent
  rw [if_neg (by omega), if_neg (by omega), if_neg (by omega), if_neg (by omega)]
theorem o_iald (B : Bd p R s m args c D ad cA y cn d G cf sf) {K : List Value → List Value → Mm → Prop} (hd : decode (yB y) pc = .ok (.iaload, 1)) (ih : ∀ L S M, K L S M → AtW p l e R s m args below meth c Q D ad cA y G cf sf (pc + 1) L S M)
    (h : popI S fun i r => popA r fun a r => lay a = 100 ∧ inR i (alen a) ∧ K L (.int (M.1 a i.toNatClampNeg) :: r) M) : AtW p l e R s m args below meth c Q D ad cA y G cf sf pc L S M := by
  obtain ⟨i, r1, rfl, h1⟩ := popI_e h
  obtain ⟨a, r, rfl, ha, hi, h2⟩ := popA_e h1
  intro hg H locs ls hl hP hS
  have h0 : lay a ≠ 0 := by omega
  obtain ⟨q, hq, hw⟩ := wsM_at (ad := ad) (cA := cA) h0
  have h3 := ih _ _ _ h2 hg H locs ls hl hP hS
  rw [List.map_cons, List.map_cons, pv_ref (dom_pos a (lay_dom h0))]
  exact va_iald B.1 B.2.1 B.2.2.2.2.2.1 hP q 0 (by rw [hw, ent_100 ha]) rfl hi hd h3
theorem o_lald (B : Bd p R s m args c D ad cA y cn d G cf sf) {K : List Value → List Value → Mm → Prop} (hd : decode (yB y) pc = .ok (.laload, 1)) (ih : ∀ L S M, K L S M → AtW p l e R s m args below meth c Q D ad cA y G cf sf (pc + 1) L S M)
    (h : popI S fun i r => popA r fun a r => lay a = 101 ∧ inR i (alen a) ∧ K L (.long (M.2.1 a i.toNatClampNeg) :: r) M) : AtW p l e R s m args below meth c Q D ad cA y G cf sf pc L S M := by
  obtain ⟨i, r1, rfl, h1⟩ := popI_e h
  obtain ⟨a, r, rfl, ha, hi, h2⟩ := popA_e h1
  intro hg H locs ls hl hP hS
  have h0 : lay a ≠ 0 := by omega
  obtain ⟨q, hq, hw⟩ := wsM_at (ad := ad) (cA := cA) h0
  have h3 := ih _ _ _ h2 hg H locs ls hl hP hS
  rw [List.map_cons, List.map_cons, pv_ref (dom_pos a (lay_dom h0))]
  exact va_lald B.1 B.2.1 B.2.2.2.2.2.1 hP q 1 (by rw [hw, ent_101 ha]) rfl hi hd h3
theorem o_bald (B : Bd p R s m args c D ad cA y cn d G cf sf) {K : List Value → List Value → Mm → Prop} (hd : decode (yB y) pc = .ok (.baload, 1)) (ih : ∀ L S M, K L S M → AtW p l e R s m args below meth c Q D ad cA y G cf sf (pc + 1) L S M)
    (h : popI S fun i r => popA r fun a r => (lay a = 102 ∨ lay a = 103) ∧ inR i (alen a) ∧ K L (.int (M.1 a i.toNatClampNeg) :: r) M) : AtW p l e R s m args below meth c Q D ad cA y G cf sf pc L S M := by
  obtain ⟨i, r1, rfl, h1⟩ := popI_e h
  obtain ⟨a, r, rfl, ha, hi, h2⟩ := popA_e h1
  intro hg H locs ls hl hP hS
  have h0 : lay a ≠ 0 := by omega
  obtain ⟨q, hq, hw⟩ := wsM_at (ad := ad) (cA := cA) h0
  have h3 := ih _ _ _ h2 hg H locs ls hl hP hS
  rw [List.map_cons, List.map_cons, pv_ref (dom_pos a (lay_dom h0))]
  rcases ha with ha | ha
  · exact va_bald B.1 B.2.1 B.2.2.2.2.2.1 hP q 2 (by rw [hw, ent_102 ha]) rfl hi hd h3
  · exact va_zald B.1 B.2.1 B.2.2.2.2.2.1 hP q 3 (by rw [hw, ent_103 ha]) rfl hi hd h3
theorem o_aald (B : Bd p R s m args c D ad cA y cn d G cf sf) {K : List Value → List Value → Mm → Prop} (hd : decode (yB y) pc = .ok (.aaload, 1)) (ih : ∀ L S M, K L S M → AtW p l e R s m args below meth c Q D ad cA y G cf sf (pc + 1) L S M)
    (h : popI S fun i r => popA r fun a r => lay a = 104 ∧ inR i (alen a) ∧ K L (.ref (M.2.2 a i.toNatClampNeg) :: r) M) : AtW p l e R s m args below meth c Q D ad cA y G cf sf pc L S M := by
  obtain ⟨i, r1, rfl, h1⟩ := popI_e h
  obtain ⟨a, r, rfl, ha, hi, h2⟩ := popA_e h1
  intro hg H locs ls hl hP hS
  have h0 : lay a ≠ 0 := by omega
  obtain ⟨q, hq, hw⟩ := wsM_at (ad := ad) (cA := cA) h0
  have h3 := ih _ _ _ h2 hg H locs ls hl hP hS
  rw [List.map_cons, List.map_cons, pv_ref (dom_pos a (lay_dom h0))]
  exact va_aldq (f := fun j => po ad (M.2.2 a j)) B.1 B.2.1 B.2.2.2.2.2.1 hP q 4 (by rw [hw, ent_104 ha]) rfl hi hd h3
theorem o_aaldC (B : Bd p R s m args c D ad cA y cn d G cf sf) {K : List Value → List Value → Mm → Prop} {b base stride : Nat} (hd : decode (yB y) pc = .ok (.aaload, 1)) (hb : 105 ≤ lay b ∧ lay b < 108) (hcb : cbs b = (base, stride)) (hbase : 0 < base) (ih : ∀ L S M, K L S M → AtW p l e R s m args below meth c Q D ad cA y G cf sf (pc + 1) L S M)
    (h : popI S fun i r => popA r fun a r => a = b ∧ inR i (alen b) ∧ K L (.ref (base + stride * i.toNatClampNeg) :: r) M) : AtW p l e R s m args below meth c Q D ad cA y G cf sf pc L S M := by
  obtain ⟨i, r1, rfl, h1⟩ := popI_e h
  obtain ⟨a, r, rfl, rfl, hi, h2⟩ := popA_e h1
  intro hg H locs ls hl hP hS
  have h0 : lay a ≠ 0 := by omega
  obtain ⟨q, hq, hw⟩ := wsM_at (ad := ad) (cA := cA) h0
  have h3 := ih _ _ _ h2 hg H locs ls hl hP hS
  rw [List.map_cons, pv_ref (by omega)] at h3
  rw [List.map_cons, List.map_cons, pv_ref (dom_pos a (lay_dom h0))]
  have hw := hw M
  rw [ent_const hb.1, hcb] at hw
  rcases (show lay a = 105 ∨ lay a = 106 ∨ lay a = 107 by omega) with e | e | e
  · rw [e] at hw
    exact va_aldq B.1 B.2.1 B.2.2.2.2.2.1 hP q 5 hw rfl hi hd h3
  · rw [e] at hw
    exact va_aldq B.1 B.2.1 B.2.2.2.2.2.1 hP q 6 hw rfl hi hd h3
  · rw [e] at hw
    have hlt : i.toNatClampNeg < alen a := Nat.not_le.mp fun q => hi (Or.inr q)
    exact W.aald (ty := .array .int) B.1 B.2.1 (hP q _ hw) ((B.2.2.2.2.2.1.2 7 (cA 7, .array .int) rfl).1 (alen a) (fun j => va_rf (some (ad (base + stride * j))))) rfl (fun q => by cases q) (by show ¬ (i < 0 ∨ (arrV _ _ _).slots.size ≤ _); rw [arrV_size]; exact hi) (by show (arrV _ _ _).slots[_]? = _; rw [arrV_read _ _ hlt]; rfl) rfl rfl hd h3
theorem o_aaldA (B : Bd p R s m args c D ad cA y cn d G cf sf) {K : List Value → List Value → Mm → Prop} (hd : decode (yB y) pc = .ok (.aaload, 1)) (ih : ∀ L S M, K L S M → AtW p l e R s m args below meth c Q D ad cA y G cf sf (pc + 1) L S M)
    (h : popI S fun i r => popA r fun a r => a = 651 ∧ inR i 23 ∧ K L (.ref (600 + i.toNatClampNeg) :: r) M) : AtW p l e R s m args below meth c Q D ad cA y G cf sf pc L S M := by
  obtain ⟨i, r1, rfl, h1⟩ := popI_e h
  obtain ⟨a, r, rfl, rfl, hi, h2⟩ := popA_e h1
  intro hg H locs ls hl hP hS
  have h3 := ih _ _ _ h2 hg H locs ls hl hP hS
  rw [List.map_cons, pv_ref (by omega)] at h3
  rw [List.map_cons, List.map_cons, pv_ref (by decide)]
  exact vb_tq B.1 B.2.1 B.2.2.2.2.2.2.2.1.2.2.2.1 hS hi rfl hd h3
theorem o_ialdS (B : Bd p R s m args c D ad cA y cn d G cf sf) {K : List Value → List Value → Mm → Prop} (hd : decode (yB y) pc = .ok (.iaload, 1)) (ih : ∀ L S M, K L S M → AtW p l e R s m args below meth c Q D ad cA y G cf sf (pc + 1) L S M)
    (h : popI S fun i r => popA r fun a r => a = 650 ∧ inR i 23 ∧ K L (.int (I (swTab i.toNatClampNeg)) :: r) M) : AtW p l e R s m args below meth c Q D ad cA y G cf sf pc L S M := by
  obtain ⟨i, r1, rfl, h1⟩ := popI_e h
  obtain ⟨a, r, rfl, rfl, hi, h2⟩ := popA_e h1
  intro hg H locs ls hl hP hS
  have h3 := ih _ _ _ h2 hg H locs ls hl hP hS
  rw [List.map_cons, List.map_cons, pv_ref (by decide)]
  exact va_ti B.1 B.2.1 B.2.2.2.2.2.2.2.1.2.2.2.2.2 hS hi rfl hd h3
theorem o_alen (B : Bd p R s m args c D ad cA y cn d G cf sf) {K : List Value → List Value → Mm → Prop} {a : Nat} {r : List Value} (hd : decode (yB y) pc = .ok (.arraylength, 1)) (ih : ∀ L S M, K L S M → AtW p l e R s m args below meth c Q D ad cA y G cf sf (pc + 1) L S M)
    (ha : 100 ≤ lay a ∧ lay a < 108) (h : K L (.int (I (alen a)) :: r) M) : AtW p l e R s m args below meth c Q D ad cA y G cf sf pc L (.ref a :: r) M := by
  intro hg H locs ls hl hP hS
  have h0 : lay a ≠ 0 := by omega
  obtain ⟨q, hq, hw⟩ := wsM_at (ad := ad) (cA := cA) h0
  have h3 := ih _ _ _ h hg H locs ls hl hP hS
  rw [List.map_cons, pv_ref (dom_pos a (lay_dom h0))]
  have hw := hw M
  rcases (show lay a = 100 ∨ lay a = 101 ∨ lay a = 102 ∨ lay a = 103 ∨ lay a = 104 ∨ lay a = 105 ∨ lay a = 106 ∨ lay a = 107 by omega) with e | e | e | e | e | e | e | e
  · rw [ent_100 e] at hw; exact va_alen B.1 B.2.1 B.2.2.2.2.2.1 hP q 0 hw rfl rfl hd h3
  · rw [ent_101 e] at hw; exact va_alen B.1 B.2.1 B.2.2.2.2.2.1 hP q 1 hw rfl rfl hd h3
  · rw [ent_102 e] at hw; exact va_alen B.1 B.2.1 B.2.2.2.2.2.1 hP q 2 hw rfl rfl hd h3
  · rw [ent_103 e] at hw; exact va_alen B.1 B.2.1 B.2.2.2.2.2.1 hP q 3 hw rfl rfl hd h3
  · rw [ent_104 e] at hw; exact va_alen B.1 B.2.1 B.2.2.2.2.2.1 hP q 4 hw rfl rfl hd h3
  · rw [ent_const (by omega), e] at hw; exact va_alen B.1 B.2.1 B.2.2.2.2.2.1 hP q 5 hw rfl rfl hd h3
  · rw [ent_const (by omega), e] at hw; exact va_alen B.1 B.2.1 B.2.2.2.2.2.1 hP q 6 hw rfl rfl hd h3
  · rw [ent_const (by omega), e] at hw; exact va_alen B.1 B.2.1 B.2.2.2.2.2.1 hP q 7 hw rfl rfl hd h3
theorem o_alenA (B : Bd p R s m args c D ad cA y cn d G cf sf) {K : List Value → List Value → Mm → Prop} {r : List Value} (hd : decode (yB y) pc = .ok (.arraylength, 1)) (ih : ∀ L S M, K L S M → AtW p l e R s m args below meth c Q D ad cA y G cf sf (pc + 1) L S M)
    (h : K L (.int (I 23) :: r) M) : AtW p l e R s m args below meth c Q D ad cA y G cf sf pc L (.ref 651 :: r) M := by
  intro hg H locs ls hl hP hS
  have h3 := ih _ _ _ h hg H locs ls hl hP hS
  rw [List.map_cons, pv_ref (by decide)]
  exact va_tlen B.1 B.2.1 B.2.2.2.2.2.2.2.1.2.2.2.1 hS rfl hd h3
theorem ent_sI {a k b : Nat} {v : Int32} (h : b ≠ a) : ent ad cA (sI M a k v) b = ent ad cA M b := ent_of (up2_ne h) rfl rfl
theorem ent_sL {a k b : Nat} {v : Int64} (h : b ≠ a) : ent ad cA (sL M a k v) b = ent ad cA M b := ent_of rfl (up2_ne h) rfl
theorem ent_sR {a k b v : Nat} (h : b ≠ a) : ent ad cA (sR M a k v) b = ent ad cA M b := ent_of rfl rfl (up2_ne h)
theorem sI_at {a k : Nat} {v : Int32} : (sI M a k v).1 a = upd (M.1 a) k v := up2_eq
theorem sL_at {a k : Nat} {v : Int64} : (sL M a k v).2.1 a = vp_updL (M.2.1 a) k v := up2_eq
theorem sR_at {a k v : Nat} : (sR M a k v).2.2 a = upf (M.2.2 a) k v := up2_eq
theorem o_iast (B : Bd p R s m args c D ad cA y cn d G cf sf) {K : List Value → List Value → Mm → Prop} (hd : decode (yB y) pc = .ok (.iastore, 1)) (ih : ∀ L S M, K L S M → AtW p l e R s m args below meth c Q D ad cA y G cf sf (pc + 1) L S M)
    (h : popI S fun v r => popI r fun i r => popA r fun a r => lay a = 100 ∧ inR i (alen a) ∧ K L r (sI M a i.toNatClampNeg v)) : AtW p l e R s m args below meth c Q D ad cA y G cf sf pc L S M := by
  obtain ⟨v, r1, rfl, h1⟩ := popI_e h
  obtain ⟨i, r2, rfl, h2⟩ := popI_e h1
  obtain ⟨a, r, rfl, ha, hi, h3⟩ := popA_e h2
  intro hg H locs ls hl hP hS
  have h0 : lay a ≠ 0 := by omega
  obtain ⟨q, hq, hw⟩ := wsM_at (ad := ad) (cA := cA) h0
  have h4 := ih _ _ _ h3 hg
  rw [List.map_cons, List.map_cons, List.map_cons, pv_ref (dom_pos a (lay_dom h0))]
  refine va_iast B.1 B.2.1 B.2.2.2.2.2.1 hP B.dd hS q 0 (by rw [hw, ent_100 ha]) rfl hi hd fun H1 locs1 hP1 _ hS1 => ?_
  rw [wsM_set hq (M' := sI M a i.toNatClampNeg v) (by rw [ent_100 ha, sI_at]) (fun b hb => ent_sI hb)] at hP1
  exact h4 H1 locs1 ls hl hP1 hS1
theorem o_last (B : Bd p R s m args c D ad cA y cn d G cf sf) {K : List Value → List Value → Mm → Prop} (hd : decode (yB y) pc = .ok (.lastore, 1)) (ih : ∀ L S M, K L S M → AtW p l e R s m args below meth c Q D ad cA y G cf sf (pc + 1) L S M)
    (h : popL S fun v r => popI r fun i r => popA r fun a r => lay a = 101 ∧ inR i (alen a) ∧ K L r (sL M a i.toNatClampNeg v)) : AtW p l e R s m args below meth c Q D ad cA y G cf sf pc L S M := by
  obtain ⟨v, r1, rfl, h1⟩ := popL_e h
  obtain ⟨i, r2, rfl, h2⟩ := popI_e h1
  obtain ⟨a, r, rfl, ha, hi, h3⟩ := popA_e h2
  intro hg H locs ls hl hP hS
  have h0 : lay a ≠ 0 := by omega
  obtain ⟨q, hq, hw⟩ := wsM_at (ad := ad) (cA := cA) h0
  have h4 := ih _ _ _ h3 hg
  rw [List.map_cons, List.map_cons, List.map_cons, pv_ref (dom_pos a (lay_dom h0))]
  refine va_last B.1 B.2.1 B.2.2.2.2.2.1 hP B.dd hS q 1 (by rw [hw, ent_101 ha]) rfl hi hd fun H1 locs1 hP1 _ hS1 => ?_
  rw [wsM_set hq (M' := sL M a i.toNatClampNeg v) (by rw [ent_101 ha, sL_at]) (fun b hb => ent_sL hb)] at hP1
  exact h4 H1 locs1 ls hl hP1 hS1
theorem o_bast (B : Bd p R s m args c D ad cA y cn d G cf sf) {K : List Value → List Value → Mm → Prop} (hd : decode (yB y) pc = .ok (.bastore, 1)) (ih : ∀ L S M, K L S M → AtW p l e R s m args below meth c Q D ad cA y G cf sf (pc + 1) L S M)
    (h : popI S fun v r => popI r fun i r => popA r fun a r => ((lay a = 102 ∧ v.toInt8.toInt32 = v) ∨ (lay a = 103 ∧ (v = I 0 ∨ v = I 1))) ∧ inR i (alen a) ∧ K L r (sI M a i.toNatClampNeg v)) : AtW p l e R s m args below meth c Q D ad cA y G cf sf pc L S M := by
  obtain ⟨v, r1, rfl, h1⟩ := popI_e h
  obtain ⟨i, r2, rfl, h2⟩ := popI_e h1
  obtain ⟨a, r, rfl, ha, hi, h3⟩ := popA_e h2
  intro hg H locs ls hl hP hS
  have h0 : lay a ≠ 0 := by omega
  obtain ⟨q, hq, hw⟩ := wsM_at (ad := ad) (cA := cA) h0
  have h4 := ih _ _ _ h3 hg
  rw [List.map_cons, List.map_cons, List.map_cons, pv_ref (dom_pos a (lay_dom h0))]
  rcases ha with ⟨ha, hv⟩ | ⟨ha, hv⟩
  · have e1 : vp_nar .byte v = v := hv
    refine va_bast B.1 B.2.1 B.2.2.2.2.2.1 hP B.dd hS q 2 (by rw [hw, ent_102 ha]) rfl hi hd fun H1 locs1 hP1 _ hS1 => ?_
    rw [e1, wsM_set hq (M' := sI M a i.toNatClampNeg v) (by rw [ent_102 ha, sI_at]) (fun b hb => ent_sI hb)] at hP1
    exact h4 H1 locs1 ls hl hP1 hS1
  · have e1 : vp_nar .boolean v = v := by rcases hv with rfl | rfl <;> rfl
    refine va_zast B.1 B.2.1 B.2.2.2.2.2.1 hP B.dd hS q 3 (by rw [hw, ent_103 ha]) rfl hi hd fun H1 locs1 hP1 _ hS1 => ?_
    rw [e1, wsM_set hq (M' := sI M a i.toNatClampNeg v) (by rw [ent_103 ha, sI_at]) (fun b hb => ent_sI hb)] at hP1
    exact h4 H1 locs1 ls hl hP1 hS1
theorem asg9 (vm : Vm) (c : ClassId) : vm.assignable c c = true := by
  show vm.assignableAux (255 + 1) c c = true
  rw [Vm.assignableAux]
  simp only [beq_self_eq_true, Bool.true_or]
theorem o_aast (B : Bd p R s m args c D ad cA y cn d G cf sf) {K : List Value → List Value → Mm → Prop} (hd : decode (yB y) pc = .ok (.aastore, 1)) (ih : ∀ L S M, K L S M → AtW p l e R s m args below meth c Q D ad cA y G cf sf (pc + 1) L S M)
    (h : popA S fun v r => popI r fun i r => popA r fun a r => lay a = 104 ∧ inR i (alen a) ∧ rE v ∧ K L r (sR M a i.toNatClampNeg v)) : AtW p l e R s m args below meth c Q D ad cA y G cf sf pc L S M := by
  obtain ⟨v, r1, rfl, h1⟩ := popA_e h
  obtain ⟨i, r2, rfl, h2⟩ := popI_e h1
  obtain ⟨a, r, rfl, ha, hi, hv, h3⟩ := popA_e h2
  intro hg H locs ls hl hP hS
  have h0 : lay a ≠ 0 := by omega
  obtain ⟨q, hq, hw⟩ := wsM_at (ad := ad) (cA := cA) h0
  have h4 := ih _ _ _ h3 (by rw [gh_sR h0]; exact hg)
  rw [gh_sR h0] at h4
  by_cases hv0 : v = 0
  · subst hv0
    rw [List.map_cons, List.map_cons, List.map_cons, pv_ref (dom_pos a (lay_dom h0)), show pv ad (.ref 0) = .null from rfl]
    refine va_astqN B.1 B.2.1 B.2.2.2.2.2.1 hP B.dd hS q 4 (by rw [hw, ent_104 ha]) rfl hi hd fun H1 locs1 hP1 _ hS1 => ?_
    rw [wsM_set hq (M' := sR M a i.toNatClampNeg 0) (by
      rw [ent_104 ha, sR_at]
      congr 7
      funext j
      unfold va_up upf
      by_cases hj : j = i.toNatClampNeg
      · rw [if_pos hj, if_pos hj, po, if_pos rfl]
      · rw [if_neg hj, if_neg hj]) (fun b hb => ent_sR hb)] at hP1
    exact h4 H1 locs1 ls hl hP1 hS1
  have hv2 : 600 ≤ v ∧ v < 623 := by
    rcases hv with hv | hv
    · exact absurd hv hv0
    · exact hv
  rw [List.map_cons, List.map_cons, List.map_cons, pv_ref (dom_pos a (lay_dom h0)), pv_ref (show v ≠ 0 by omega)]
  have hany : va_Any RX11 s H (ad v) := by
    obtain ⟨cell, g1, g2, g3, -⟩ := ((B.2.2.2.2.2.2.2.1.1.1 (v - 600) (show v - 600 < 23 by omega)).2.1).kept hS.2.1
    dsimp only at g1
    rw [show 600 + (v - 600) = v by omega] at g1
    obtain ⟨kC, hkC, -⟩ := Vm.findClass_spec g3
    refine ⟨cell, g1, g2, ⟨kC, hkC⟩, fun comp hc => ?_⟩
    cases g3.symm.trans hc
    exact asg9 _ _
  refine va_astqM B.1 B.2.1 B.2.2.2.2.2.1 hP B.dd hS q 4 (by rw [hw, ent_104 ha]) rfl hany hi hd fun H1 locs1 hP1 _ hS1 => ?_
  rw [wsM_set hq (M' := sR M a i.toNatClampNeg v) (by
    rw [ent_104 ha, sR_at]
    congr 7
    funext j
    unfold va_up upf
    by_cases hj : j = i.toNatClampNeg
    · rw [if_pos hj, if_pos hj, po, if_neg (by omega)]
    · rw [if_neg hj, if_neg hj]) (fun b hb => ent_sR hb)] at hP1
  exact h4 H1 locs1 ls hl hP1 hS1
end SN4
