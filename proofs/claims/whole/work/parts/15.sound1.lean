/-! THE SMALL MACHINE IS RIGHT, an instruction a row -/
def isRA (v : Value) : Bool := match v with
  | .retAddr _ => true
  | _ => false
def lok (ad : Nat → Nat) (ls : Array Slot) (n : Nat) (L : List Value) : Prop := ls.size = n ∧ lv_wf ls ∧ L.length ≤ n ∧ ∀ (i : Nat) (v : Value), L[i]? = some v → isRA v = false → ls[i]? = some (.val (pv ad v))
def lpl (ad : Nat → Nat) (L : List Value) : List (Nat × Value) := L.zipIdx.filterMap fun q => if isRA q.1 then none else some (q.2, pv ad q.1)
theorem lpl_mem {ad : Nat → Nat} {L : List Value} {i : Nat} {w : Value} : (i, w) ∈ lpl ad L ↔ ∃ v, L[i]? = some v ∧ isRA v = false ∧ w = pv ad v := by
  unfold lpl
  rw [List.mem_filterMap]
  constructor
  · rintro ⟨⟨v, j⟩, hm, h⟩
    have hv := List.mem_zipIdx_iff_getElem?.mp hm
    dsimp only at h hv
    by_cases hr : isRA v = true
    · rw [if_pos hr] at h; cases h
    · rw [if_neg hr] at h
      cases h
      exact ⟨v, hv, by simpa using hr, rfl⟩
  · rintro ⟨v, hv, hr, rfl⟩
    exact ⟨(v, i), List.mem_zipIdx_iff_getElem?.mpr hv, by dsimp only; rw [if_neg (by rw [hr]; decide)]⟩
theorem lok.has {ad : Nat → Nat} {ls : Array Slot} {n : Nat} {L : List Value} (h : lok ad ls n L) : lv_has ls n (lpl ad L) := by
  refine ⟨h.1, h.2.1, fun q hq => ?_⟩
  obtain ⟨v, h1, h2, h3⟩ := lpl_mem.mp (show (q.1, q.2) ∈ lpl ad L from hq)
  rw [h3]
  exact h.2.2.2 _ _ h1 h2
theorem getD_some {L : List Value} {k : Nat} {v : Value} (h : L.getD k (.retAddr 0) = v) (hv : isRA v = false) : L[k]? = some v := by
  rw [List.getD_eq_getElem?_getD] at h
  cases hk : L[k]? with
  | none => rw [hk] at h; subst h; cases hv
  | some w => rw [hk] at h; rw [← h]; rfl
theorem ldI_e {L : List Value} {k : Nat} {K : Value → Prop} (h : ldI L k K) : ∃ x, L[k]? = some (.int x) ∧ K (.int x) := by
  unfold ldI at h
  generalize hv : L.getD k (.retAddr 0) = v at h
  cases v with
  | int x => exact ⟨x, getD_some hv rfl, h⟩
  | _ => exact h.elim
theorem ldL_e {L : List Value} {k : Nat} {K : Value → Prop} (h : ldL L k K) : ∃ x, L[k]? = some (.long x) ∧ K (.long x) := by
  unfold ldL at h
  generalize hv : L.getD k (.retAddr 0) = v at h
  cases v with
  | long x => exact ⟨x, getD_some hv rfl, h⟩
  | _ => exact h.elim
theorem ldA_e {L : List Value} {k : Nat} {K : Value → Prop} (h : ldA L k K) : ∃ x : Nat, L[k]? = some (.ref x) ∧ K (.ref x) := by
  unfold ldA at h
  generalize hv : L.getD k (.retAddr 0) = v at h
  cases v with
  | ref x => exact ⟨x, getD_some hv rfl, h⟩
  | _ => exact h.elim
theorem popI_e {S : List Value} {K : Int32 → List Value → Prop} (h : popI S K) : ∃ x r, S = .int x :: r ∧ K x r := by
  match S, h with
  | .int x :: r, h => exact ⟨x, r, rfl, h⟩
theorem popL_e {S : List Value} {K : Int64 → List Value → Prop} (h : popL S K) : ∃ x r, S = .long x :: r ∧ K x r := by
  match S, h with
  | .long x :: r, h => exact ⟨x, r, rfl, h⟩
theorem popA_e {S : List Value} {K : Nat → List Value → Prop} (h : popA S K) : ∃ (x : Nat) (r : List Value), S = .ref x :: r ∧ K x r := by
  match S, h with
  | .ref x :: r, h => exact ⟨x, r, rfl, h⟩
theorem pop1_e {S : List Value} {K : Value → List Value → Prop} (h : pop1 S K) : ∃ v r, S = v :: r ∧ v.category = 1 ∧ K v r := by
  match S, h with
  | .ref x :: r, h => exact ⟨_, r, rfl, rfl, h⟩
  | .int x :: r, h => exact ⟨_, r, rfl, rfl, h⟩
theorem popN_e {S : List Value} {K : Prop} (h : popN S K) : S = [] ∧ K := by
  match S, h with
  | [], h => exact ⟨rfl, h⟩
theorem pv_cat (ad : Nat → Nat) (v : Value) : (pv ad v).category = v.category := by
  cases v with
  | ref r =>
    show (va_rf (po ad r)).category = 1
    unfold po
    by_cases h : r = 0
    · rw [if_pos h]; rfl
    · rw [if_neg h]; rfl
  | _ => rfl
theorem isRA_pv {v : Value} (h : v.category = 2) : ∀ ad, (pv ad v).category = 2 := fun ad => by rw [pv_cat]; exact h
theorem stv_get {L : List Value} {k j : Nat} {v w : Value} (h : (stv L k v)[j]? = some w) (hr : isRA w = false) : (j = k ∧ w = v) ∨ (j ≠ k ∧ L[j]? = some w ∧ ¬ (j + 1 = k ∧ w.category = 2)) := by
  have base : ∀ (L' : List Value) (k : Nat), (L'.set k v)[j]? = some w → (j = k ∧ w = v) ∨ (j ≠ k ∧ L'[j]? = some w) := by
    intro L' k h
    rw [List.getElem?_set] at h
    by_cases e : k = j
    · subst e
      rw [if_pos rfl] at h
      split at h
      · cases h; exact Or.inl ⟨rfl, rfl⟩
      · cases h
    · rw [if_neg e] at h
      exact Or.inr ⟨fun q => e q.symm, h⟩
  have kill : ∀ i : Nat, ((L.set i (.retAddr 0)).set (i + 1) v)[j]? = some w → (j = i + 1 ∧ w = v) ∨ (j ≠ i + 1 ∧ L[j]? = some w ∧ ¬ (j + 1 = i + 1 ∧ w.category = 2)) := by
    intro i h
    rcases base _ _ h with ⟨h1, h2⟩ | ⟨h1, h2⟩
    · exact Or.inl ⟨h1, h2⟩
    · rw [List.getElem?_set] at h2
      by_cases e : i = j
      · subst e
        rw [if_pos rfl] at h2
        split at h2
        · cases h2; cases hr
        · cases h2
      · rw [if_neg e] at h2
        exact Or.inr ⟨h1, h2, fun q => by omega⟩
  unfold stv at h
  cases k with
  | zero =>
    rcases base L 0 h with ⟨h1, h2⟩ | ⟨h1, h2⟩
    · exact Or.inl ⟨h1, h2⟩
    · exact Or.inr ⟨h1, h2, fun q => by omega⟩
  | succ i =>
    dsimp only at h
    split at h
    · exact kill i h
    · exact kill i h
    · rename_i hx hy
      rcases base _ _ h with ⟨h1, h2⟩ | ⟨h1, h2⟩
      · exact Or.inl ⟨h1, h2⟩
      · refine Or.inr ⟨h1, h2, fun ⟨q1, q2⟩ => ?_⟩
        have e : j = i := by omega
        subst e
        have hg : L.getD j (.retAddr 0) = w := by rw [List.getD_eq_getElem?_getD, h2]; rfl
        cases w with
        | long x => exact hx x hg
        | double x => exact hy x hg
        | _ => cases q2
theorem stv_len {L : List Value} {k : Nat} {v : Value} : (stv L k v).length = L.length := by
  unfold stv
  cases k with
  | zero => simp
  | succ i => dsimp only; split <;> simp
theorem lok.st1 {ad : Nat → Nat} {ls ls' : Array Slot} {n k : Nat} {L : List Value} {v : Value} (h : lok ad ls n L) (h' : lv_has ls' n ((k, pv ad v) :: (lpl ad L).filter (fun q => !(q.1 == k) && !(q.1 + 1 == k && q.2.category == 2)))) : lok ad ls' n (stv L k v) := by
  refine ⟨h'.1, h'.2.1, by rw [stv_len]; exact h.2.2.1, fun j w hj hr => ?_⟩
  rcases stv_get hj hr with ⟨rfl, rfl⟩ | ⟨hne, hg, hnl⟩
  · exact h'.2.2 (j, pv ad w) List.mem_cons_self
  · refine h'.2.2 (j, pv ad w) (List.mem_cons_of_mem _ (List.mem_filter.mpr ⟨lpl_mem.mpr ⟨w, hg, hr, rfl⟩, ?_⟩))
    have h1 : (j == k) = false := by simpa using hne
    rw [h1]
    by_cases e : j + 1 = k
    · have hc : ((pv ad w).category == 2) = false := by
        rw [pv_cat]
        simpa using fun q => hnl ⟨e, q⟩
      dsimp only
      rw [hc]
      simp
    · have h2 : (j + 1 == k) = false := by simpa using e
      dsimp only
      rw [h2]
      rfl
theorem lok.st2 {ad : Nat → Nat} {ls ls' : Array Slot} {n k : Nat} {L : List Value} {x : Int64} (h : lok ad ls n L) (h' : lv_has ls' n ((k, .long x) :: (lpl ad L).filter (fun q => !(q.1 == k) && (!(q.1 == k + 1) && !(q.1 + 1 == k && q.2.category == 2))))) : lok ad ls' n (stw L k (.long x)) := by
  refine ⟨h'.1, h'.2.1, by unfold stw; rw [List.length_set, stv_len]; exact h.2.2.1, fun j w hj hr => ?_⟩
  unfold stw at hj
  rw [List.getElem?_set] at hj
  by_cases e1 : k + 1 = j
  · subst e1
    rw [if_pos rfl] at hj
    split at hj
    · cases hj; cases hr
    · cases hj
  · rw [if_neg e1] at hj
    rcases stv_get hj hr with ⟨rfl, rfl⟩ | ⟨hne, hg, hnl⟩
    · exact h'.2.2 (j, .long x) List.mem_cons_self
    · refine h'.2.2 (j, pv ad w) (List.mem_cons_of_mem _ (List.mem_filter.mpr ⟨lpl_mem.mpr ⟨w, hg, hr, rfl⟩, ?_⟩))
      have h1 : (j == k) = false := by simpa using hne
      have h3 : (j == k + 1) = false := by simpa using fun q => e1 q.symm
      dsimp only
      rw [h1, h3]
      by_cases e : j + 1 = k
      · have hc : ((pv ad w).category == 2) = false := by
          rw [pv_cat]
          simpa using fun q => hnl ⟨e, q⟩
        rw [hc]
        simp
      · have h2 : (j + 1 == k) = false := by simpa using e
        rw [h2]
        rfl
theorem msk_get {inf : List Nat} : ∀ {L : List Value} {k i : Nat} {v : Value}, (msk inf k L)[i]? = some v → isRA v = false → L[i]? = some v
  | [], k, i, v, h, _ => by simp [msk] at h
  | w :: r, k, 0, v, h, hv => by
    have h : some (cond (inf.any (Nat.beq k)) w (.retAddr 0)) = some v := h
    cases hb : inf.any (Nat.beq k) with
    | true => rw [hb] at h; exact h
    | false => rw [hb] at h; cases h; cases hv
  | w :: r, k, i + 1, v, h, hv => msk_get (L := r) (k := k + 1) (i := i) h hv
theorem msk_len {inf : List Nat} : ∀ {L : List Value} {k : Nat}, (msk inf k L).length = L.length
  | [], k => rfl
  | w :: r, k => congrArg (· + 1) (msk_len (L := r) (k := k + 1))
theorem lok.msk {ad : Nat → Nat} {ls : Array Slot} {n k : Nat} {L : List Value} {inf : List Nat} (h : lok ad ls n L) : lok ad ls n (msk inf k L) :=
  ⟨h.1, h.2.1, by rw [msk_len]; exact h.2.2.1, fun i v hi hv => h.2.2.2 i v (msk_get hi hv) hv⟩
