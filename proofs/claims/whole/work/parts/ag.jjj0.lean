/-! ===== behind the constructors: the same memory, in the two machines' words ===== -/
def M0 : Mm := mC sF
def tagB (a x : Nat) (t : List Nat) : Bool := match t with
  | 3 :: o :: _ => Nat.beq x (a + o) && Nat.blt 0 o
  | 4 :: o :: _ => Nat.beq x o && Nat.blt 0 o
  | [3] => false
  | [4] => false
  | _ => true
def cstB (a : Nat) : Bool := cond (Nat.blt (lay a) 100) (Nat.blt (lay a) 13 && (List.range (cq (lay a - 1)).2.2).all fun k => tagB a (lk 0 sF3 a k) ((FT.getD (lay a - 1) []).getD k [])) (cond (Nat.blt (lay a) 105) true (Nat.blt (lay a) 108 && (Nat.blt 0 (cbs a).1 && (List.range (alen a)).all fun j => Nat.beq (lk 0 sF3 a j) ((cbs a).1 + (cbs a).2 * j))))
set_option maxRecDepth 100000 in
theorem cst_ok : dom.all cstB = true := by decide +kernel
set_option maxRecDepth 100000 in
theorem dom_F : (dom.all fun a => kdm dmF a) = true := by decide +kernel
theorem fv_C {ad : Nat → Nat} {M : Mm} {a k : Nat} {t : List Nat} (h : tagB a (M.2.2 a k) t = true) : fvC ad M a k t = fv ad M a k t := by
  match t, h with
  | [], _ => rfl
  | 0 :: _, _ => rfl
  | 1 :: _, _ => rfl
  | 2 :: _, _ => rfl
  | [3], h => cases h
  | [4], h => cases h
  | 3 :: o :: r, h =>
    have h : (Nat.beq (M.2.2 a k) (a + o) && Nat.blt 0 o) = true := h
    rw [Bool.and_eq_true] at h
    have h2 := Nat.le_of_ble_eq_true h.2
    show va_rf (po ad (M.2.2 a k)) = .ref (ad (a + o))
    rw [Nat.eq_of_beq_eq_true h.1, po, if_neg (by omega)]
    rfl
  | 4 :: o :: r, h =>
    have h : (Nat.beq (M.2.2 a k) o && Nat.blt 0 o) = true := h
    rw [Bool.and_eq_true] at h
    have h2 := Nat.le_of_ble_eq_true h.2
    show va_rf (po ad (M.2.2 a k)) = .ref (ad o)
    rw [Nat.eq_of_beq_eq_true h.1, po, if_neg (by omega)]
    rfl
  | 5 :: _, _ => rfl
  | (n + 6) :: _, _ => rfl
theorem arrV_cg {c : ClassId} {n : Nat} {f g : Nat → Value} (h : ∀ j, j < n → f j = g j) : arrV c n f = arrV c n g := by
  unfold arrV
  rw [show (fun j : Fin n => f j.val) = fun j : Fin n => g j.val from funext fun j => h j.val j.isLt]
theorem at_M {D : va_G} {ad : Nat → Nat} {cA : Nat → ClassId} {a : Nat} {H : Heap} (ha : a ∈ dom) (h : va_at D vwCl (ad a, entC ad cA M0 a) H) : va_at D vwCl (ad a, ent ad cA M0 a) H := by
  have hc := List.all_eq_true.mp cst_ok a ha
  unfold cstB at hc
  cases h1 : Nat.blt (lay a) 100 with
  | true =>
    rw [h1] at hc
    have hc : (Nat.blt (lay a) 13 && (List.range (cq (lay a - 1)).2.2).all fun k => tagB a (lk 0 sF3 a k) ((FT.getD (lay a - 1) []).getD k [])) = true := hc
    rw [Bool.and_eq_true] at hc
    have hl := Nat.le_of_ble_eq_true hc.1
    have hl0 := dom_lay a ha
    have e1 : lay a = (lay a - 1) + 1 := by omega
    rw [entC_obj (ci := lay a - 1) (by omega) e1] at h
    rw [ent_obj (ci := lay a - 1) (by omega) e1]
    have hf : flds ad M0 a (lay a - 1) = fC ad M0 a (lay a - 1) := by
      unfold flds fC
      apply List.map_congr_left
      intro k hk
      exact (fv_C (List.all_eq_true.mp hc.2 k hk)).symm
    rw [hf]
    exact h
  | false =>
    rw [h1] at hc
    have g1 : ¬ lay a < 100 := fun q => by rw [show Nat.blt (lay a) 100 = true from Nat.ble_eq_true_of_le q] at h1; cases h1
    cases h2 : Nat.blt (lay a) 105 with
    | true =>
      have g2 := Nat.le_of_ble_eq_true h2
      rcases (show lay a = 100 ∨ lay a = 101 ∨ lay a = 102 ∨ lay a = 103 ∨ lay a = 104 by omega) with e | e | e | e | e
      · rw [ent_100 e]; rw [entC_100 e] at h; exact h
      · rw [ent_101 e]; rw [entC_101 e] at h; exact h
      · rw [ent_102 e]; rw [entC_102 e] at h; exact h
      · rw [ent_103 e]; rw [entC_103 e] at h; exact h
      · rw [ent_104 e]; rw [entC_q (t := 4) e (by omega)] at h; exact h
    | false =>
      rw [h2] at hc
      have g2 : ¬ lay a < 105 := fun q => by rw [show Nat.blt (lay a) 105 = true from Nat.ble_eq_true_of_le q] at h2; cases h2
      have hc : (Nat.blt (lay a) 108 && (Nat.blt 0 (cbs a).1 && (List.range (alen a)).all fun j => Nat.beq (lk 0 sF3 a j) ((cbs a).1 + (cbs a).2 * j))) = true := hc
      rw [Bool.and_eq_true, Bool.and_eq_true] at hc
      obtain ⟨c1, c2, c3⟩ := hc
      have c2 := Nat.le_of_ble_eq_true c2
      rw [entC_q (t := lay a - 100) (by omega) (by omega)] at h
      rw [ent_const (by omega)]
      refine Eq.trans h ?_
      show some (vp_cell _ _) = some (vp_cell _ _)
      rw [vp_cell_q, vp_cell_q]
      congr 1
      refine arrV_cg fun j hj => ?_
      have e := Nat.eq_of_beq_eq_true (List.all_eq_true.mp c3 j (List.mem_range.mpr hj))
      have e : M0.2.2 a j = (cbs a).1 + (cbs a).2 * j := e
      rw [e, po, if_neg (by omega)]
theorem wsM_of {D : va_G} {ad : Nat → Nat} {cA : Nat → ClassId} {A : Nat → Prop} {H : Heap} (h : CWd D cA ad dmF M0 A H) : va_P D vwCl (wsM ad cA M0) H ∧ va_D A (wsM ad cA M0) := by
  have hd : ∀ a ∈ dom, a ∈ dmF := fun a ha => kdm_e (List.all_eq_true.mp dom_F a ha)
  have at' : ∀ (k : Nat) (q : Nat × va_E), (wsM ad cA M0)[k]? = some q → ∃ a, dom[k]? = some a ∧ q = (ad a, ent ad cA M0 a) := fun k q hk => by
    unfold wsM at hk
    rw [List.getElem?_map] at hk
    cases hb : dom[k]? with
    | none => rw [hb] at hk; cases hk
    | some b => rw [hb] at hk; cases hk; exact ⟨b, rfl, rfl⟩
  refine ⟨fun k q hk => ?_, fun i j x y hx hy e => ?_, fun k q hk => ?_⟩
  · obtain ⟨a, ha, rfl⟩ := at' k q hk
    have ha := List.mem_of_getElem? ha
    obtain ⟨q, hq, hw⟩ := wsC_at (ad := ad) (cA := cA) (hd a ha)
    exact at_M ha (h.1 q _ (hw _))
  · obtain ⟨a, ha, rfl⟩ := at' i x hx
    obtain ⟨b, hb, rfl⟩ := at' j y hy
    obtain ⟨q, hq, hw⟩ := wsC_at (ad := ad) (cA := cA) (hd a (List.mem_of_getElem? ha))
    obtain ⟨q', hq', hw'⟩ := wsC_at (ad := ad) (cA := cA) (hd b (List.mem_of_getElem? hb))
    have hqq := h.2.1.1 q q' _ _ (hw M0) (hw' M0) e
    subst hqq
    have hab : a = b := Option.some.inj (hq.symm.trans hq')
    subst hab
    obtain ⟨l1, e1⟩ := List.getElem?_eq_some_iff.mp ha
    obtain ⟨l2, e2⟩ := List.getElem?_eq_some_iff.mp hb
    exact (List.getElem_inj dom_nd).mp (e1.trans e2.symm)
  · obtain ⟨a, ha, rfl⟩ := at' k q hk
    obtain ⟨q, hq, hw⟩ := wsC_at (ad := ad) (cA := cA) (hd a (List.mem_of_getElem? ha))
    exact h.2.1.2 q (ad a, entC ad cA M0 a) (hw M0)
/-! ===== the two sides stand in the same state ===== -/
def g0 (k : Nat) : Int := if k = 90 then 900 else if k = 7 then 11 else if k = 6 then 900 else if k = 5 then 10 else 0
theorem M0_s : M0.1 402 = fun k => I (g0 k) := by
  funext k
  show lk 0 sF1 402 k = _
  have e : lk 0 sF1 402 k = cond (Nat.beq k 90) (I 900) (cond (Nat.beq k 7) (I 11) (cond (Nat.beq k 6) (I 900) (cond (Nat.beq k 5) (I 10) 0))) := rfl
  rw [e]
  unfold g0
  by_cases h1 : k = 90
  · subst h1; rfl
  rw [if_neg h1, nbeq_f h1]
  by_cases h2 : k = 7
  · subst h2; rfl
  rw [if_neg h2, nbeq_f h2]
  by_cases h3 : k = 6
  · subst h3; rfl
  rw [if_neg h3, nbeq_f h3]
  by_cases h4 : k = 5
  · subst h4; rfl
  rw [if_neg h4, nbeq_f h4]
  rfl
theorem v0n {P : Prop} {w : Nat} {k : Nat} (h : (w : Int) < g0 k) (hk : g0 k = 0) : P := by
  rw [hk] at h
  omega
theorem g0_RGs : RGs g0 := by
  refine ⟨by decide +kernel, by decide +kernel, by decide +kernel, by decide +kernel, by decide +kernel, by decide +kernel, fun j k h => v0n h rfl, fun j k h => v0n h rfl⟩
theorem g0_RGd : RGd g0 := ⟨by decide +kernel, by decide +kernel, by decide +kernel, by decide +kernel⟩
theorem g0_RN : RN g0 := by unfold RN; decide +kernel
def v00 (k : Nat) : Int := if k = 0 then 0 else -1
def z00 : ZS := ((g0, 0, fun _ _ => 0), fun _ => [], (0, fun _ => 0), v00, (0, fun _ => 0), (0, fun _ => 0), (fun _ => false, fun _ _ => 0, fun _ _ => []))
set_option maxRecDepth 100000 in
theorem M0_KQ : KQ M0 100 300 z00 := by
  refine ⟨⟨Or.inl rfl, Or.inl rfl, by decide +kernel, by decide +kernel, by decide +kernel, by decide +kernel⟩, ⟨⟨Or.inl rfl, by decide +kernel, ⟨by decide +kernel, fun w h => v0n (k := 0) h rfl, fun w h => v0n (k := 1) h rfl, fun w h => v0n (k := 2) h rfl, fun w h => v0n (k := 3) h rfl, fun w h => v0n (k := 4) h rfl⟩, ⟨by decide +kernel, by decide +kernel, by decide +kernel, by decide +kernel⟩, g0_RGs, g0_RGd, g0_RN⟩, ⟨0, by decide +kernel, by decide +kernel, by decide, Nat.zero_le 8, fun i hi => absurd hi (Nat.not_lt_zero i)⟩, fun i hi => absurd hi (Nat.not_lt_zero i)⟩,
    ⟨fun w h => v0n (k := 0) h rfl, fun w h => v0n (k := 1) h rfl, fun w h => v0n (k := 2) h rfl⟩, ⟨by decide +kernel, Nat.zero_le _, fun k hk => absurd hk (Nat.not_lt_zero k)⟩, ⟨⟨by decide +kernel, fun w h => v0n (k := 122) h rfl, by decide +kernel⟩, ?_, ?_⟩, ⟨by decide +kernel, by decide +kernel, by decide +kernel, by decide +kernel, by decide +kernel, by decide +kernel⟩, ⟨by decide +kernel, fun h => absurd h (by decide)⟩, ⟨by decide +kernel, fun w h => absurd h (Nat.not_lt_zero w)⟩, ?_⟩
  · have h : ∀ i, i < 40 → M0.2.2 301 i = 0 := by decide +kernel
    exact fun i hi => Or.inl (h i hi)
  · have h : ∀ i, i < 40 → M0.2.2 311 i = 0 := by decide +kernel
    exact fun i hi => Or.inl (h i hi)
  · have h : ∀ k, k < 2 → M0.1 (700 + 100 * k) 3 = I 0 := by decide +kernel
    exact fun k hk => ⟨fun _ => h k hk, fun h => by cases h⟩
set_option maxRecDepth 100000 in
theorem M0_RQ : RQ M0 z00 := by
  refine ⟨⟨M0_s, ⟨by decide +kernel, Nat.zero_le 8, fun j i hj => absurd hj (Nat.not_lt_zero j)⟩, g0_RGs, g0_RGd, g0_RN⟩, ⟨fun w h => v0n (k := 0) h rfl, fun w h => v0n (k := 1) h rfl, fun w h => v0n (k := 2) h rfl⟩, ⟨by decide +kernel, Nat.zero_le _, fun k hk => absurd hk (Nat.not_lt_zero k)⟩, ?_, ⟨by decide +kernel, Or.inl (by decide +kernel), Or.inl (by decide +kernel), Or.inl (by decide +kernel), Or.inl (by decide +kernel)⟩, ⟨by decide +kernel, fun h => absurd h (by decide)⟩, ⟨⟨-1, by decide +kernel, Or.inr ⟨rfl, rfl⟩⟩, fun w h => absurd h (Nat.not_lt_zero w)⟩, ?_⟩
  · show ∀ k, k < 23 → M0.2.1 406 k = J (nmR (wl k))
    decide +kernel
  · have h : ∀ k, k < 2 → M0.1 419 k = I 0 := by decide +kernel
    exact fun k hk => ⟨fun _ => h k hk, fun h => by cases h⟩
theorem z00_PQ : PQ z00 := by
  refine ⟨⟨by decide +kernel, fun h => absurd h (by decide +kernel), fun i h => v0n (k := 122) h rfl⟩, ⟨fun w h => v0n (k := 0) h rfl, fun w h => v0n (k := 1) h rfl, fun w h => v0n (k := 2) h rfl⟩, fun w k h => v0n (k := 0) h rfl, Nat.zero_le 1, Nat.zero_le 5, fun k _ h => by cases h⟩
theorem M0_JJJ : JJJ M0 := ⟨100, 300, z00, M0_KQ, M0_RQ, z00_PQ⟩
theorem M0_gh : gh M0 = 0 := by decide +kernel
