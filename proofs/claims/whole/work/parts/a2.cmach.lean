/-! ===== the constructors: a machine that makes its cells; all in it is concrete, so it simply runs ===== -/
abbrev Ki : Type := List (Nat × Nat × Int32)
abbrev Kl : Type := List (Nat × Nat × Int64)
abbrev Kr : Type := List (Nat × Nat × Nat)
/-- addresses still to be given; cells so far; what they hold, where it isn't 0 -/
abbrev Kst : Type := List Nat × List Nat × Ki × Kl × Kr
def lk {α : Type} (z : α) (l : List (Nat × Nat × α)) (a k : Nat) : α := match l with
  | [] => z
  | (b, j, v) :: r => cond (Nat.beq a b) (cond (Nat.beq k j) v (lk z r a k)) (lk z r a k)
def pk {α : Type} (e : Bool) (l : List (Nat × Nat × α)) (a k : Nat) (v : α) : List (Nat × Nat × α) := cond e l ((a, k, v) :: l)
def mC (σ : Kst) : Mm := (lk 0 σ.2.2.1, lk 0 σ.2.2.2.1, lk 0 σ.2.2.2.2)
def pI (σ : Kst) (a k : Nat) (v : Int32) : Kst := (σ.1, σ.2.1, pk (decide (v = lk 0 σ.2.2.1 a k)) σ.2.2.1 a k v, σ.2.2.2.1, σ.2.2.2.2)
def pL (σ : Kst) (a k : Nat) (v : Int64) : Kst := (σ.1, σ.2.1, σ.2.2.1, pk (decide (v = lk 0 σ.2.2.2.1 a k)) σ.2.2.2.1 a k v, σ.2.2.2.2)
def pR (σ : Kst) (a k : Nat) (v : Nat) : Kst := (σ.1, σ.2.1, σ.2.2.1, σ.2.2.2.1, pk (decide (v = lk 0 σ.2.2.2.2 a k)) σ.2.2.2.2 a k v)
theorem nbeq_f {a b : Nat} (h : a ≠ b) : Nat.beq a b = false := by
  cases q : Nat.beq a b with
  | false => rfl
  | true => exact absurd (Nat.eq_of_beq_eq_true q) h
theorem pk_e {α : Type} {z : α} {l : List (Nat × Nat × α)} {a k : Nat} {v : α} {e : Bool} (h : e = true → v = lk z l a k) : lk z (pk e l a k v) = up2 (lk z l) a k v := by
  funext b j
  cases e with
  | true =>
    show lk z l b j = _
    by_cases hb : b = a
    · subst hb
      rw [up2_eq]
      by_cases hj : j = k
      · subst hj; rw [upf_eq]; exact (h rfl).symm
      · rw [upf_ne hj]
    · rw [up2_ne hb]
  | false =>
    show cond (Nat.beq b a) (cond (Nat.beq j k) v (lk z l b j)) (lk z l b j) = _
    by_cases hb : b = a
    · subst hb
      rw [up2_eq, Nat.beq_refl]
      by_cases hj : j = k
      · subst hj; rw [upf_eq, Nat.beq_refl]; rfl
      · rw [upf_ne hj, nbeq_f hj]; rfl
    · rw [up2_ne hb, nbeq_f hb]; rfl
theorem mC_I {σ : Kst} {a k : Nat} {v : Int32} : mC (pI σ a k v) = sI (mC σ) a k v := by
  have h : lk 0 (pI σ a k v).2.2.1 = up2 (lk 0 σ.2.2.1) a k v := pk_e fun h => of_decide_eq_true h
  show (lk 0 (pI σ a k v).2.2.1, lk 0 σ.2.2.2.1, lk 0 σ.2.2.2.2) = _
  rw [h]
  rfl
theorem mC_L {σ : Kst} {a k : Nat} {v : Int64} : mC (pL σ a k v) = sL (mC σ) a k v := by
  have h : lk 0 (pL σ a k v).2.2.2.1 = up2 (lk 0 σ.2.2.2.1) a k v := pk_e fun h => of_decide_eq_true h
  show (lk 0 σ.2.2.1, lk 0 (pL σ a k v).2.2.2.1, lk 0 σ.2.2.2.2) = _
  rw [h]
  rfl
theorem mC_R {σ : Kst} {a k : Nat} {v : Nat} : mC (pR σ a k v) = sR (mC σ) a k v := by
  have h : lk 0 (pR σ a k v).2.2.2.2 = up2 (lk 0 σ.2.2.2.2) a k v := pk_e fun h => of_decide_eq_true h
  show (lk 0 σ.2.2.1, lk 0 σ.2.2.2.1, lk 0 (pR σ a k v).2.2.2.2) = _
  rw [h]
  rfl
/-! what a cell is -/
def fvC (ad : Nat → Nat) (M : Mm) (a k : Nat) (t : List Nat) : Value := match t with
  | 0 :: _ => .int (M.1 a k)
  | 5 :: _ => .int (M.1 a k)
  | 1 :: _ => .long (M.2.1 a k)
  | 2 :: _ => va_rf (po ad (M.2.2 a k))
  | 3 :: _ => va_rf (po ad (M.2.2 a k))
  | 4 :: _ => va_rf (po ad (M.2.2 a k))
  | _ => .null
def fC (ad : Nat → Nat) (M : Mm) (a ci : Nat) : List Value := (List.range (cq ci).2.2).map fun k => fvC ad M a k ((FT.getD ci []).getD k [])
def entC (ad : Nat → Nat) (cA : Nat → ClassId) (M : Mm) (a : Nat) : va_E :=
  if lay a < 100 then .inr (lay a - 1, fC ad M a (lay a - 1))
  else if lay a = 101 then .inl (cA 1, alen a, .inr (.inl (M.2.1 a)))
  else if lay a < 104 then .inl (cA (lay a - 100), alen a, .inl (M.1 a))
  else .inl (cA (lay a - 100), alen a, .inr (.inr (.inr (.inr fun j => po ad (M.2.2 a j)))))
def wsC (ad : Nat → Nat) (cA : Nat → ClassId) (dm : List Nat) (M : Mm) : va_W := dm.map fun a => (ad a, entC ad cA M a)
def Wfm (dm : List Nat) (M : Mm) : Prop := (∀ a k, M.2.2 a k = 0 ∨ M.2.2 a k ∈ dm) ∧ ∀ a, a ∉ dm → ∀ k, M.1 a k = 0 ∧ M.2.1 a k = 0 ∧ M.2.2 a k = 0
def CWd (D : va_G) (cA : Nat → ClassId) (ad : Nat → Nat) (dm : List Nat) (M : Mm) (A : Nat → Prop) (H : Heap) : Prop := va_P D vwCl (wsC ad cA dm M) H ∧ va_D A (wsC ad cA dm M) ∧ dm.Nodup ∧ (∀ a ∈ dm, lay a ≠ 0) ∧ Wfm dm M
def A0 (ad : Nat → Nat) (dm : List Nat) (sz : Nat) : Nat → Prop := fun q => (∃ a ∈ dm, q = ad a) ∨ sz ≤ q
/-- addresses that mean something -/
def kp (dm : List Nat) (a : Nat) : Prop := a ∈ dm ∨ a = 501 ∨ (600 ≤ a ∧ a < 700)
def kdm (dm : List Nat) (a : Nat) : Bool := dm.any (Nat.beq a)
def kpB (dm : List Nat) (a : Nat) : Bool := kdm dm a || (Nat.beq a 501 || (Nat.ble 600 a && Nat.blt a 700))
def okV (dm : List Nat) (v : Value) : Bool := match v with
  | .ref a => Nat.beq a 0 || kpB dm a
  | _ => true
def allV (dm : List Nat) (L : List Value) : Bool := L.all (okV dm)
theorem kdm_e {dm : List Nat} {a : Nat} (h : kdm dm a = true) : a ∈ dm := by
  obtain ⟨b, h1, h2⟩ := List.any_eq_true.mp h
  rw [Nat.eq_of_beq_eq_true h2]
  exact h1
theorem kpB_e {dm : List Nat} {a : Nat} (h : kpB dm a = true) : kp dm a := by
  unfold kpB at h
  rw [Bool.or_eq_true, Bool.or_eq_true, Bool.and_eq_true] at h
  rcases h with h | h | h
  · exact Or.inl (kdm_e h)
  · exact Or.inr (Or.inl (Nat.eq_of_beq_eq_true h))
  · exact Or.inr (Or.inr ⟨Nat.le_of_ble_eq_true h.1, Nat.le_of_ble_eq_true h.2⟩)
theorem kpB_n {dm : List Nat} {a : Nat} (h : kpB dm a = false) : ¬ kp dm a := by
  intro q
  unfold kpB at h
  rw [Bool.or_eq_false_iff, Bool.or_eq_false_iff] at h
  rcases q with q | q | q
  · have := h.1
    unfold kdm at this
    rw [List.any_eq_false] at this
    exact this a q (Nat.beq_refl a)
  · subst q; exact absurd h.2.1 (by decide)
  · have h3 := h.2.2
    rw [Nat.ble_eq_true_of_le q.1] at h3
    exact absurd (Nat.ble_eq_true_of_le (show a + 1 ≤ 700 from q.2)) (by
      have h4 : Nat.ble (a + 1) 700 = false := h3
      rw [h4]; decide)
section CM0
variable {D : va_G} {cA : Nat → ClassId} {ad ad' : Nat → Nat} {dm : List Nat} {M M' : Mm} {A : Nat → Prop} {H H1 : Heap} {a q : Nat} {e : va_E}
theorem fvC_of {b k : Nat} {t : List Nat} (h1 : M'.1 b k = M.1 b k) (h2 : M'.2.1 b k = M.2.1 b k) (h3 : M'.2.2 b k = M.2.2 b k) : fvC ad M' b k t = fvC ad M b k t := by
  unfold fvC
  rw [h1, h2, h3]
theorem entC_of {b : Nat} (h1 : M'.1 b = M.1 b) (h2 : M'.2.1 b = M.2.1 b) (h3 : M'.2.2 b = M.2.2 b) : entC ad cA M' b = entC ad cA M b := by
  have hf : ∀ ci, fC ad M' b ci = fC ad M b ci := by
    intro ci
    unfold fC
    apply List.map_congr_left
    intro k _
    exact fvC_of (by rw [h1]) (by rw [h2]) (by rw [h3])
  unfold entC
  rw [hf, h1, h2, h3]
theorem entC_ad {b : Nat} (h : ∀ k, po ad' (M.2.2 b k) = po ad (M.2.2 b k)) : entC ad' cA M b = entC ad cA M b := by
  have hf : ∀ ci, fC ad' M b ci = fC ad M b ci := by
    intro ci
    unfold fC
    apply List.map_congr_left
    intro k _
    unfold fvC
    rw [h]
  have hg : (fun j => po ad' (M.2.2 b j)) = (fun j => po ad (M.2.2 b j)) := funext h
  unfold entC
  rw [hf, hg]
theorem po_ad {r : Nat} (h : r = 0 ∨ ad' r = ad r) : po ad' r = po ad r := by
  unfold po
  by_cases q : r = 0
  · rw [if_pos q, if_pos q]
  · rw [if_neg q, if_neg q, h.resolve_left q]
theorem wsC_at (h : a ∈ dm) : ∃ q : Nat, dm[q]? = some a ∧ ∀ M : Mm, (wsC ad cA dm M)[q]? = some (ad a, entC ad cA M a) := by
  obtain ⟨q, hq⟩ := List.getElem?_of_mem h
  refine ⟨q, hq, fun M => ?_⟩
  unfold wsC
  rw [List.getElem?_map, hq]
  rfl
theorem wsC_set (hn : dm.Nodup) (hq : dm[q]? = some a) (he : e = entC ad cA M' a) (h : ∀ b, b ≠ a → entC ad cA M' b = entC ad cA M b) : (wsC ad cA dm M).set q (ad a, e) = wsC ad cA dm M' := by
  subst he
  apply List.ext_getElem?
  intro j
  unfold wsC
  rw [List.getElem?_set]
  by_cases hj : q = j
  · subst hj
    rw [if_pos rfl]
    have hl : q < dm.length := (List.getElem?_eq_some_iff.mp hq).1
    rw [if_pos (by rw [List.length_map]; exact hl), List.getElem?_map, hq]
    rfl
  · rw [if_neg hj, List.getElem?_map, List.getElem?_map]
    cases hb : dm[j]? with
    | none => rfl
    | some b =>
      have hne : b ≠ a := by
        intro e
        subst e
        obtain ⟨l1, e1⟩ := List.getElem?_eq_some_iff.mp hq
        obtain ⟨l2, e2⟩ := List.getElem?_eq_some_iff.mp hb
        exact hj ((List.getElem_inj hn).mp (e1.trans e2.symm))
      show some (ad b, entC ad cA M b) = some (ad b, entC ad cA M' b)
      rw [h b hne]
theorem Wfm_I {k : Nat} {v : Int32} (h : Wfm dm M) (ha : a ∈ dm) : Wfm dm (sI M a k v) :=
  ⟨h.1, fun b hb j => ⟨by
    have hne : b ≠ a := fun e => hb (by rw [e]; exact ha)
    show up2 M.1 a k v b j = 0
    rw [up2_ne hne]
    exact (h.2 b hb j).1, (h.2 b hb j).2⟩⟩
theorem Wfm_L {k : Nat} {v : Int64} (h : Wfm dm M) (ha : a ∈ dm) : Wfm dm (sL M a k v) :=
  ⟨h.1, fun b hb j => ⟨(h.2 b hb j).1, by
    have hne : b ≠ a := fun e => hb (by rw [e]; exact ha)
    show up2 M.2.1 a k v b j = 0
    rw [up2_ne hne]
    exact (h.2 b hb j).2.1, (h.2 b hb j).2.2⟩⟩
theorem Wfm_R {k v : Nat} (h : Wfm dm M) (ha : a ∈ dm) (hv : v = 0 ∨ v ∈ dm) : Wfm dm (sR M a k v) := by
  refine ⟨fun b j => ?_, fun b hb j => ⟨(h.2 b hb j).1, (h.2 b hb j).2.1, by
    have hne : b ≠ a := fun e => hb (by rw [e]; exact ha)
    show up2 M.2.2 a k v b j = 0
    rw [up2_ne hne]
    exact (h.2 b hb j).2.2⟩⟩
  show up2 M.2.2 a k v b j = 0 ∨ up2 M.2.2 a k v b j ∈ dm
  by_cases hb : b = a
  · subst hb
    rw [up2_eq]
    by_cases hj : j = k
    · subst hj; rw [upf_eq]; exact hv
    · rw [upf_ne hj]; exact h.1 b j
  · rw [up2_ne hb]; exact h.1 b j
/-- one more cell -/
theorem CWd.new (h : CWd D cA ad dm M A H) (ha : a ∉ dm) (ha0 : lay a ≠ 0) (he : e = entC ad cA M a) (hP1 : va_P D vwCl (wsC ad cA dm M ++ [(q, e)]) H1) (hD1 : va_D A (wsC ad cA dm M ++ [(q, e)])) : CWd D cA (upf ad a q) (dm ++ [a]) M A H1 := by
  obtain ⟨hP, hD, hn, hl, hw⟩ := h
  have h1 : ∀ r, r = 0 ∨ r ∈ dm → po (upf ad a q) r = po ad r := fun r hr => po_ad (hr.imp id fun k => by
    have hne : r ≠ a := fun z => ha (by rw [← z]; exact k)
    exact upf_ne hne)
  have hE : ∀ b, entC (upf ad a q) cA M b = entC ad cA M b := fun b => entC_ad fun k => h1 _ (hw.1 b k)
  have hws : wsC (upf ad a q) cA (dm ++ [a]) M = wsC ad cA dm M ++ [(q, e)] := by
    unfold wsC
    rw [List.map_append]
    congr 1
    · apply List.map_congr_left
      intro b hb
      have hne : b ≠ a := fun z => ha (by rw [← z]; exact hb)
      rw [hE, upf_ne hne]
    · show [(upf ad a q a, entC (upf ad a q) cA M a)] = _
      rw [hE, upf_eq, he]
  refine ⟨by rw [hws]; exact hP1, by rw [hws]; exact hD1, ?_, ?_, ?_, ?_⟩
  · refine List.nodup_append.mpr ⟨hn, by simp, fun x hx y hy => ?_⟩
    rw [List.mem_singleton] at hy
    subst hy
    exact fun z => ha (by rw [← z]; exact hx)
  · intro b hb
    rcases List.mem_append.mp hb with z | z
    · exact hl b z
    · rw [List.mem_singleton] at z; subst z; exact ha0
  · exact fun b k => (hw.1 b k).imp id fun z => List.mem_append_left _ z
  · exact fun b hb => hw.2 b fun z => hb (List.mem_append_left _ z)
theorem CWd.set (h : CWd D cA ad dm M A H) (ha : a ∈ dm) {q : Nat} (hq : dm[q]? = some a) (he : e = entC ad cA M' a) (hb : ∀ b, b ≠ a → entC ad cA M' b = entC ad cA M b) (hw : Wfm dm M') (hP1 : va_P D vwCl ((wsC ad cA dm M).set q (ad a, e)) H1) (hD1 : va_D A ((wsC ad cA dm M).set q (ad a, e))) : CWd D cA ad dm M' A H1 := by
  obtain ⟨hP, hD, hn, hl, -⟩ := h
  rw [wsC_set hn hq he hb] at hP1 hD1
  exact ⟨hP1, hD1, hn, hl, hw⟩
theorem pv_ad {v : Value} (hv : okV dm v = true) (h : ∀ b, kp dm b → ad' b = ad b) : pv ad' v = pv ad v := by
  cases v with
  | ref r =>
    show va_rf (po ad' r) = va_rf (po ad r)
    congr 1
    have hv : (Nat.beq r 0 || kpB dm r) = true := hv
    rw [Bool.or_eq_true] at hv
    exact po_ad (hv.imp Nat.eq_of_beq_eq_true fun z => h r (kpB_e z))
  | _ => rfl
theorem lok_ad {ls : Array Slot} {n : Nat} {L : List Value} (hL : allV dm L = true) (h : ∀ b, kp dm b → ad' b = ad b) (hl : lok ad ls n L) : lok ad' ls n L := by
  refine ⟨hl.1, hl.2.1, hl.2.2.1, fun i v hi hv => ?_⟩
  rw [pv_ad (List.all_eq_true.mp hL v (List.mem_of_getElem? hi)) h]
  exact hl.2.2.2 i v hi hv
theorem map_ad {S : List Value} (hS : allV dm S = true) (h : ∀ b, kp dm b → ad' b = ad b) : S.map (pv ad') = S.map (pv ad) := by
  apply List.map_congr_left
  intro v hv
  exact pv_ad (List.all_eq_true.mp hS v hv) h
theorem lay_kp {b : Nat} (h : b = 501 ∨ (600 ≤ b ∧ b < 700)) : lay b = 0 := by
  rcases h with rfl | h
  · decide +kernel
  · have : ∀ b, b < 700 → 600 ≤ b → lay b = 0 := by decide +kernel
    exact this b h.2 h.1
theorem CWd_pos (h : CWd D cA ad dm M A H) (ha : a ∈ dm) : a ≠ 0 := by
  intro e
  subst e
  exact h.2.2.2.1 0 ha (by decide +kernel)
theorem entC_obj {ci : Nat} (hci : ci < 12) (h : lay a = ci + 1) : entC ad cA M a = .inr (ci, fC ad M a ci) := by
  unfold entC
  rw [if_pos (by omega), h]
  rfl
theorem fC_at {ci k : Nat} (hk : k < (cq ci).2.2) : (fC ad M a ci)[k]? = some (fvC ad M a k ((FT.getD ci []).getD k [])) := by
  unfold fC
  rw [List.getElem?_map, List.getElem?_range hk]
  rfl
theorem fC_len {ci : Nat} : (fC ad M a ci).length = (cq ci).2.2 := by
  unfold fC
  simp
theorem entC_put {ci k : Nat} (hci : ci < 12) (hlay : lay a = ci + 1) (hk : k < (cq ci).2.2) {v : Value} (hv : v = fvC ad M' a k ((FT.getD ci []).getD k [])) (ho : ∀ j, j ≠ k → fvC ad M' a j ((FT.getD ci []).getD j []) = fvC ad M a j ((FT.getD ci []).getD j [])) : (.inr (ci, (fC ad M a ci).set k v) : va_E) = entC ad cA M' a := by
  rw [entC_obj hci hlay]
  congr 2
  apply List.ext_getElem?
  intro j
  rw [List.getElem?_set]
  by_cases hj : k = j
  · subst hj
    rw [if_pos rfl, if_pos (by rw [fC_len]; exact hk), fC_at hk, hv]
  · rw [if_neg hj]
    by_cases hl : j < (cq ci).2.2
    · rw [fC_at hl, fC_at hl, ho j (fun q => hj q.symm)]
    · rw [List.getElem?_eq_none (by rw [fC_len]; omega), List.getElem?_eq_none (by rw [fC_len]; omega)]
end CM0
