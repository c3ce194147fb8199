/-! wp CHOOSES: out of wp with any end Q there is one end r, M' that Q holds of, and wp with just that end -/
section CHO
variable (E : EE) (C : List Op) (Q : Option Value → Mm → Prop)
def Clo (r : Option Value) (M' : Mm) (At : JJ) : Prop := ∀ (pc : Nat) (L S : List Value) (M : Mm), wp E At (fun r' M'' => r' = r ∧ M'' = M') X0 C 1000 (jmT C pc) L S M → At pc L S M
def AtX : JJ := fun pc L S M => ∃ (r : Option Value) (M' : Mm), Q r M' ∧ ∀ At : JJ, Clo E C r M' At → At pc L S M
def Ch (P : JJ → (Option Value → Mm → Prop) → Prop) : Prop := P (AtX E C Q) Q → ∃ (r : Option Value) (M' : Mm), Q r M' ∧ ∀ At : JJ, Clo E C r M' At → P At (fun r' M'' => r' = r ∧ M'' = M')
end CHO
section CHL
variable {E : EE} {C : List Op} {Q : Option Value → Mm → Prop}
theorem ch_at {pc : Nat} {L S : List Value} {M : Mm} : Ch E C Q (fun At _ => At pc L S M) := fun h => h
theorem ch_rt {v : Option Value} {M : Mm} : Ch E C Q (fun _ Rt => Rt v M) := fun h => ⟨v, M, h, fun _ _ => ⟨rfl, rfl⟩⟩
theorem ch_false : Ch E C Q (fun _ _ => False) := fun h => h.elim
theorem ch_and {A : Prop} {P : JJ → (Option Value → Mm → Prop) → Prop} (h : A → Ch E C Q P) : Ch E C Q (fun At Rt => A ∧ P At Rt) := fun ⟨a, p⟩ =>
  let ⟨r, M', q, f⟩ := h a p
  ⟨r, M', q, fun At hA => ⟨a, f At hA⟩⟩
theorem ch_if {A : Prop} {P R : JJ → (Option Value → Mm → Prop) → Prop} (h1 : Ch E C Q P) (h2 : Ch E C Q R) : Ch E C Q (fun At Rt => (A → P At Rt) ∧ (¬ A → R At Rt)) := fun ⟨p, q⟩ => by
  by_cases hA : A
  · obtain ⟨r, M', q', f⟩ := h1 (p hA)
    exact ⟨r, M', q', fun At h => ⟨fun _ => f At h, fun n => absurd hA n⟩⟩
  · obtain ⟨r, M', q', f⟩ := h2 (q hA)
    exact ⟨r, M', q', fun At h => ⟨fun n => absurd n hA, fun _ => f At h⟩⟩
theorem ch_fi {A : Prop} {P R : JJ → (Option Value → Mm → Prop) → Prop} (h1 : Ch E C Q P) (h2 : Ch E C Q R) : Ch E C Q (fun At Rt => (¬ A → P At Rt) ∧ (A → R At Rt)) := fun ⟨p, q⟩ => by
  by_cases hA : A
  · obtain ⟨r, M', q', f⟩ := h2 (q hA)
    exact ⟨r, M', q', fun At h => ⟨fun n => absurd hA n, fun _ => f At h⟩⟩
  · obtain ⟨r, M', q', f⟩ := h1 (p hA)
    exact ⟨r, M', q', fun At h => ⟨fun _ => f At h, fun n => absurd n hA⟩⟩
theorem ch_ex {α : Type} {P : α → JJ → (Option Value → Mm → Prop) → Prop} (h : ∀ x, Ch E C Q (P x)) : Ch E C Q (fun At Rt => ∃ x, P x At Rt) := fun ⟨x, p⟩ =>
  let ⟨r, M', q, f⟩ := h x p
  ⟨r, M', q, fun At hA => ⟨x, f At hA⟩⟩
theorem ch_popI {S : List Value} {K : Int32 → List Value → JJ → (Option Value → Mm → Prop) → Prop} (h : ∀ x r, Ch E C Q (K x r)) : Ch E C Q (fun At Rt => popI S fun x r => K x r At Rt) := by
  unfold popI
  split
  · exact h _ _
  · exact ch_false
theorem ch_popL {S : List Value} {K : Int64 → List Value → JJ → (Option Value → Mm → Prop) → Prop} (h : ∀ x r, Ch E C Q (K x r)) : Ch E C Q (fun At Rt => popL S fun x r => K x r At Rt) := by
  unfold popL
  split
  · exact h _ _
  · exact ch_false
theorem ch_popA {S : List Value} {K : Nat → List Value → JJ → (Option Value → Mm → Prop) → Prop} (h : ∀ x r, Ch E C Q (K x r)) : Ch E C Q (fun At Rt => popA S fun x r => K x r At Rt) := by
  unfold popA
  split
  · exact h _ _
  · exact ch_false
theorem ch_pop1 {S : List Value} {K : Value → List Value → JJ → (Option Value → Mm → Prop) → Prop} (h : ∀ x r, Ch E C Q (K x r)) : Ch E C Q (fun At Rt => pop1 S fun x r => K x r At Rt) := by
  unfold pop1
  split
  · exact h _ _
  · exact h _ _
  · exact ch_false
theorem ch_popN {S : List Value} {P : JJ → (Option Value → Mm → Prop) → Prop} (h : Ch E C Q P) : Ch E C Q (fun At Rt => popN S (P At Rt)) := by
  unfold popN
  split
  · exact h
  · exact ch_false
theorem ch_ldI {L : List Value} {k : Nat} {K : Value → JJ → (Option Value → Mm → Prop) → Prop} (h : ∀ x, Ch E C Q (K x)) : Ch E C Q (fun At Rt => ldI L k fun x => K x At Rt) := by
  unfold ldI
  split
  · exact h _
  · exact ch_false
theorem ch_ldL {L : List Value} {k : Nat} {K : Value → JJ → (Option Value → Mm → Prop) → Prop} (h : ∀ x, Ch E C Q (K x)) : Ch E C Q (fun At Rt => ldL L k fun x => K x At Rt) := by
  unfold ldL
  split
  · exact h _
  · exact ch_false
theorem ch_ldA {L : List Value} {k : Nat} {K : Value → JJ → (Option Value → Mm → Prop) → Prop} (h : ∀ x, Ch E C Q (K x)) : Ch E C Q (fun At Rt => ldA L k fun x => K x At Rt) := by
  unfold ldA
  split
  · exact h _
  · exact ch_false
theorem ch_cond {b : Bool} {P : JJ → (Option Value → Mm → Prop) → Prop} (h : Ch E C Q P) : Ch E C Q (fun At Rt => cond b (P At Rt) False) := by
  cases b
  · exact ch_false
  · exact h
theorem ch_takeS {K : List Value → List Value → JJ → (Option Value → Mm → Prop) → Prop} (h : ∀ as r, Ch E C Q (K as r)) : ∀ (n : Nat) (S acc : List Value), Ch E C Q (fun At Rt => takeS n S acc fun as r => K as r At Rt)
  | 0, S, acc => by
    unfold takeS
    exact h _ _
  | n + 1, [], acc => by
    unfold takeS
    exact ch_false
  | n + 1, v :: S, acc => by
    unfold takeS
    exact ch_takeS h n S (v :: acc)
theorem ch_get {a ci k : Nat} {M : Mm} {K : Value → JJ → (Option Value → Mm → Prop) → Prop} (h : ∀ x, Ch E C Q (K x)) (t : List Nat) : Ch E C Q (fun At Rt => wpGet a ci k M (fun v => K v At Rt) t) := by
  unfold wpGet
  split
  all_goals first
    | exact ch_false
    | exact ch_and fun _ => h _
theorem ch_put {S : List Value} {ci k : Nat} {M : Mm} {K : List Value → Mm → JJ → (Option Value → Mm → Prop) → Prop} (h : ∀ r M, Ch E C Q (K r M)) (t : List Nat) : Ch E C Q (fun At Rt => wpPut S ci k M (fun r M' => K r M' At Rt) t) := by
  unfold wpPut
  split
  all_goals first
    | exact ch_false
    | exact ch_popI fun _ _ => ch_popA fun _ _ => ch_and fun _ => h _ _
    | exact ch_popI fun _ _ => ch_popA fun _ _ => ch_and fun _ => ch_and fun _ => h _ _
    | exact ch_popL fun _ _ => ch_popA fun _ _ => ch_and fun _ => h _ _
    | exact ch_popA fun _ _ => ch_popA fun _ _ => ch_and fun _ => h _ _
theorem ch_inv {y : Nat} {as r : List Value} {M : Mm} {K : List Value → Mm → JJ → (Option Value → Mm → Prop) → Prop} (h : ∀ r M, Ch E C Q (K r M)) (t : Nat) : Ch E C Q (fun At Rt => wpInv E y as r M (fun r M' => K r M' At Rt) t) := by
  unfold wpInv
  split
  all_goals first
    | exact ch_false
    | exact ch_ex fun _ => ch_and fun _ => h _ _
    | exact ch_ex fun _ => ch_ex fun _ => ch_and fun _ => h _ _
theorem ch_call {S : List Value} {M : Mm} {K : List Value → Mm → JJ → (Option Value → Mm → Prop) → Prop} (h : ∀ r M, Ch E C Q (K r M)) (t : List Nat) : Ch E C Q (fun At Rt => wpCall E S M (fun r M' => K r M' At Rt) t) := by
  unfold wpCall
  split
  · exact ch_takeS (fun _ _ => ch_cond (ch_inv h _)) _ _ _
  · exact ch_takeS (fun _ _ => ch_popA fun _ _ => ch_cond (ch_and fun _ => ch_inv h _)) _ _ _
  · exact ch_popI fun _ _ => ch_popI fun _ _ => ch_cond (h _ _)
  · exact ch_popI fun _ _ => ch_popI fun _ _ => ch_cond (h _ _)
  · exact ch_takeS (fun _ _ => ch_cond (ch_inv h _)) _ _ _
  · exact ch_popI fun _ _ => ch_popI fun _ _ => ch_popA fun _ _ => ch_popI fun _ _ => ch_popA fun _ _ => ch_and fun _ => ch_and fun _ => ch_and fun _ => ch_and fun _ => ch_and fun _ => ch_and fun _ => ch_and fun _ => ch_and fun _ => h _ _
  · exact ch_popI fun _ _ => ch_popI fun _ _ => ch_popA fun _ _ => ch_popI fun _ _ => ch_popA fun _ _ => ch_and fun _ => ch_and fun _ => ch_and fun _ => ch_and fun _ => ch_and fun _ => ch_and fun _ => ch_and fun _ => ch_and fun _ => h _ _
  · exact ch_popA fun _ _ => ch_and fun _ => ch_and fun _ => h _ _
  · exact ch_false
theorem ch_ald {X : Nat × (Nat → Int32)} {S : List Value} {M : Mm} {K : List Value → JJ → (Option Value → Mm → Prop) → Prop} (h : ∀ r, Ch E C Q (K r)) (t : List Nat) : Ch E C Q (fun At Rt => wpAld X S M (fun r => K r At Rt) t) := by
  unfold wpAld
  split
  all_goals first
    | exact ch_false
    | exact ch_popI fun _ _ => ch_popA fun _ _ => ch_and fun _ => ch_and fun _ => h _
theorem ch_aald {S : List Value} {M : Mm} {K : List Value → JJ → (Option Value → Mm → Prop) → Prop} (h : ∀ r, Ch E C Q (K r)) (t : List Nat) : Ch E C Q (fun At Rt => wpAald S M (fun r => K r At Rt) t) := by
  unfold wpAald
  split
  all_goals first
    | exact ch_false
    | exact ch_popI fun _ _ => ch_popA fun _ _ => ch_and fun _ => ch_and fun _ => h _
theorem ch_alen {X : Nat × (Nat → Int32)} {a : Nat} {K : Int32 → JJ → (Option Value → Mm → Prop) → Prop} (h : ∀ r, Ch E C Q (K r)) (t : List Nat) : Ch E C Q (fun At Rt => wpAlen X a (fun r => K r At Rt) t) := by
  unfold wpAlen
  split
  all_goals first
    | exact ch_false
    | exact ch_and fun _ => h _
theorem ch_ret {M : Mm} {x : Int32} (t : List Nat) : Ch E C Q (fun _ Rt => wpRet Rt M x t) := by
  unfold wpRet
  split
  · exact ch_rt
  · exact ch_and fun _ => ch_rt
theorem sw_vac {k : Nat → Prop} {x : Int32} {d : Nat} : ∀ (r : List Nat) (lo : Int) (P : Prop), ¬ P → (∀ j : Nat, j < r.length → ¬ x = I (lo + j)) → swT k x lo d P r
  | [], lo, P, h, _ => fun p => absurd p h
  | t :: r, lo, P, h, h2 => ⟨fun e => absurd e (by have := h2 0 (by simp); simpa using this), sw_vac r (lo + 1) _ (fun q => h q.2) fun j hj => by
    have := h2 (j + 1) (by simp only [List.length_cons]; omega)
    rw [show lo + 1 + (j : Int) = lo + ((j + 1 : Nat) : Int) by omega]
    exact this⟩
theorem I_far {lo : Int} {j : Nat} (h0 : 0 < j) (h1 : j < 1000) : ¬ I lo = I (lo + j) := by
  intro h
  have e : I (lo + j) - I lo = I j := by
    rw [show I (lo + j) - I lo = I (lo + j - lo) from (Int32.ofInt_sub _ _).symm, show lo + (j : Int) - lo = j by omega]
  rw [← h, Int32.sub_self] at e
  have e2 := congrArg Int32.toInt e
  rw [I_toInt (by omega) (by omega)] at e2
  have : (0 : Int32).toInt = 0 := rfl
  omega
theorem ch_sw {x : Int32} {d : Nat} {K : Nat → JJ → (Option Value → Mm → Prop) → Prop} (h : ∀ t, Ch E C Q (K t)) : ∀ (r : List Nat) (lo : Int) (P : Prop), P → r.length < 1000 → Ch E C Q (fun At Rt => swT (fun t => K t At Rt) x lo d P r)
  | [], lo, P, p, _ => fun q =>
    let ⟨r, M', q', f⟩ := h d (q p)
    ⟨r, M', q', fun At hA => fun _ => f At hA⟩
  | t :: r, lo, P, p, hl => fun q => by
    simp only [List.length_cons] at hl
    by_cases e : x = I lo
    · obtain ⟨r', M', q', f⟩ := h t (q.1 e)
      exact ⟨r', M', q', fun At hA => ⟨fun _ => f At hA, sw_vac r (lo + 1) _ (fun z => z.1 e) fun j hj => by
        rw [e, show lo + 1 + (j : Int) = lo + ((j + 1 : Nat) : Int) by omega]
        exact I_far (by omega) (by omega)⟩⟩
    · obtain ⟨r', M', q', f⟩ := ch_sw h r (lo + 1) (¬ x = I lo ∧ P) ⟨e, p⟩ (by omega) q.2
      exact ⟨r', M', q', fun At hA => ⟨fun z => absurd z e, f At hA⟩⟩
def okL (is : List Op) : Bool := is.all fun o => Nat.blt o.2.2.length 900
theorem okL_jm {t : Nat} : ∀ {C : List Op}, okL C = true → okL (jm C t) = true
  | [], _ => rfl
  | o :: C, h => by
    unfold jm
    cases hb : Nat.beq o.1 t with
    | true => exact h
    | false =>
      have h2 : okL C = true := by
        unfold okL at h ⊢
        rw [List.all_cons, Bool.and_eq_true] at h
        exact h.2
      exact okL_jm h2
theorem okL_tl {o : Op} {is : List Op} (h : okL (o :: is) = true) : okL is = true := by
  unfold okL at h ⊢
  rw [List.all_cons, Bool.and_eq_true] at h
  exact h.2
theorem okL_hd {pc : Nat} {i : Instr} {inf : List Nat} {is : List Op} (h : okL ((pc, i, inf) :: is) = true) : inf.length < 900 := by
  unfold okL at h
  rw [List.all_cons, Bool.and_eq_true] at h
  exact Nat.le_of_ble_eq_true h.1
theorem wp_ch {X : Nat × (Nat → Int32)} (hC : okL C = true) : ∀ (n : Nat) (is : List Op) (L S : List Value) (M : Mm), okL is = true → Ch E C Q (fun At Rt => wp E At Rt X C n is L S M)
  | 0, is, L, S, M, _ => by
    unfold wp
    exact ch_false
  | n + 1, [], L, S, M, _ => by
    unfold wp
    exact ch_false
  | n + 1, (pc, i, inf) :: is, L, S, M, hk => by
    have ih := fun (L S : List Value) (M : Mm) => wp_ch (X := X) hC n is L S M (okL_tl hk)
    have ij := fun (t : Nat) (L S : List Value) (M : Mm) => wp_ch (X := X) hC n (jm C t) L S M (okL_jm hC)
    have hl := okL_hd hk
    have hl2 : inf.tail.length < 1000 := by rw [List.length_tail]; omega
    unfold wp
    cases i
    all_goals dsimp only
    all_goals first
      | exact ch_false
      | exact ch_at
      | exact ih _ _ _
      | exact ij _ _ _ _
      | exact ch_ldI fun _ => ih _ _ _
      | exact ch_ldL fun _ => ih _ _ _
      | exact ch_ldA fun _ => ih _ _ _
      | exact ch_popI fun _ _ => ih _ _ _
      | exact ch_popL fun _ _ => ih _ _ _
      | exact ch_popA fun _ _ => ih _ _ _
      | exact ch_ldI fun _ => ch_popI fun _ _ => ih _ _ _
      | exact ch_popI fun _ _ => ch_popI fun _ _ => ih _ _ _
      | exact ch_popI fun _ _ => ch_popI fun _ _ => ch_and fun _ => ih _ _ _
      | exact ch_popL fun _ _ => ch_popL fun _ _ => ih _ _ _
      | exact ch_popI fun _ _ => ch_popL fun _ _ => ih _ _ _
      | exact ch_pop1 fun _ _ => ih _ _ _
      | exact ch_pop1 fun _ _ => ch_pop1 fun _ _ => ih _ _ _
      | exact ch_popI fun _ _ => ch_popI fun _ _ => ch_if (ij _ _ _ _) (ih _ _ _)
      | exact ch_popI fun _ _ => ch_if (ij _ _ _ _) (ih _ _ _)
      | exact ch_popA fun _ _ => ch_popA fun _ _ => ch_and fun _ => ch_and fun _ => ch_if (ij _ _ _ _) (ih _ _ _)
      | exact ch_popA fun _ _ => ch_if (ij _ _ _ _) (ih _ _ _)
      | exact ch_popA fun _ _ => ch_fi (ij _ _ _ _) (ih _ _ _)
      | exact ch_popI fun _ _ => ch_sw (fun t => ij t _ _ _) _ _ _ trivial hl2
      | exact ch_call (fun _ _ => ih _ _ _) _
      | exact ch_ald (fun _ => ih _ _ _) _
      | exact ch_aald (fun _ => ih _ _ _) _
      | exact ch_popA fun _ _ => ch_alen (fun _ => ih _ _ _) _
      | exact ch_popI fun _ _ => ch_popN (ch_ret _)
      | exact ch_popL fun _ _ => ch_popN ch_rt
      | exact ch_popA fun _ _ => ch_popN ch_rt
      | exact ch_popN ch_rt
      | exact ch_popI fun _ _ => ch_popA fun _ _ => ch_and fun _ => ch_and fun _ => ih _ _ _
      | exact ch_popI fun _ _ => ch_popI fun _ _ => ch_popA fun _ _ => ch_and fun _ => ch_and fun _ => ih _ _ _
      | exact ch_popL fun _ _ => ch_popI fun _ _ => ch_popA fun _ _ => ch_and fun _ => ch_and fun _ => ih _ _ _
      | exact ch_popA fun _ _ => ch_popI fun _ _ => ch_popA fun _ _ => ch_and fun _ => ch_and fun _ => ch_and fun _ => ih _ _ _
      | (split
         all_goals first
           | exact ch_false
           | exact ch_put (fun _ _ => ih _ _ _) _
           | exact ch_popA fun _ _ => ch_get (fun _ => ih _ _ _) _
           | exact ch_popA fun _ _ => ch_false)
      | (refine ch_popA fun _ _ => ?_
         split
         all_goals first
           | exact ch_false
           | exact ch_get (fun _ => ih _ _ _) _)
end CHL
/-- method y ends, at these arguments and this memory, and Q holds of its answer and of the memory that it leaves -/
def EvQ (d y : Nat) (args : List Value) (M : Mm) (Q : Option Value → Mm → Prop) : Prop := ∃ (r : Option Value) (M' : Mm), Ev d y args M r M' ∧ Q r M'
def StepQ (d : Nat) (C : List Op) (Q : Option Value → Mm → Prop) (At : JJ) : Prop := ∀ (pc : Nat) (L S : List Value) (M : Mm), wp (Ev d) At Q X0 C 1000 (jmT C pc) L S M → At pc L S M
theorem okL_jmT {C : List Op} {t : Nat} (h : okL C = true) : okL (jmT C t) = true := by
  unfold jmT
  have := okL_jm (t := t) h
  split
  · rename_i e
    rw [e] at this
    exact okL_tl this
  · rfl
theorem Ev.introQ {y cn d : Nat} {C : List Op} {args L0 : List Value} {M : Mm} {Q : Option Value → Mm → Prop} (hk : okM y cn C = true) (hle : Nat.ble (entL args).length (yM y) = true) (hL : L0 = entL args ++ List.replicate (yM y - (entL args).length) (.retAddr 0)) (hC : okL C = true)
    (h : ∀ At : JJ, StepQ d C Q At → wp (Ev d) At Q X0 C 1000 C L0 [] M) : EvQ (d + 1) y args M Q := by
  have hcl : StepQ d C Q (AtX (Ev d) C Q) := by
    intro pc L S M hw
    obtain ⟨r, M', q, f⟩ := wp_ch (E := Ev d) (Q := Q) (X := X0) hC 1000 (jmT C pc) L S M (okL_jmT hC) hw
    exact ⟨r, M', q, fun At hA => hA pc L S M (f At hA)⟩
  obtain ⟨r, M', q, f⟩ := wp_ch (E := Ev d) (Q := Q) (X := X0) hC 1000 C L0 [] M hC (h _ hcl)
  exact ⟨r, M', Ev.intro hk hle hL fun At step => f At step, q⟩
theorem Ev.ofQ {d y : Nat} {args : List Value} {M M9 : Mm} {r9 : Option Value} (h : EvQ d y args M fun r M' => r = r9 ∧ M' = M9) : Ev d y args M r9 M9 := by
  obtain ⟨r, M', e, rfl, rfl⟩ := h
  exact e
theorem EvQ.of {d y : Nat} {args : List Value} {M M9 : Mm} {r9 : Option Value} {Q : Option Value → Mm → Prop} (h : Ev d y args M r9 M9) (q : Q r9 M9) : EvQ d y args M Q := ⟨r9, M9, h, q⟩
theorem EvQ.mono {d y : Nat} {args : List Value} {M : Mm} {P Q : Option Value → Mm → Prop} (h : EvQ d y args M P) (hq : ∀ r M', P r M' → Q r M') : EvQ d y args M Q := by
  obtain ⟨r, M', e, p⟩ := h
  exact ⟨r, M', e, hq r M' p⟩
/-- a call, by its contract: an int, nothing -/
theorem q_int {d y : Nat} {args : List Value} {M : Mm} {P : Int32 → Mm → Prop} {K : Int32 → Mm → Prop} (h : EvQ d y args M fun r M' => ∃ v, r = some (.int v) ∧ P v M') (hk : ∀ v M', P v M' → K v M') : ∃ (v : Int32) (M' : Mm), Ev d y args M (some (.int v)) M' ∧ K v M' := by
  obtain ⟨r, M', e, v, rfl, p⟩ := h
  exact ⟨v, M', e, hk v M' p⟩
theorem q_non {d y : Nat} {args : List Value} {M : Mm} {P : Mm → Prop} {K : Mm → Prop} (h : EvQ d y args M fun r M' => r = none ∧ P M') (hk : ∀ M', P M' → K M') : ∃ M' : Mm, Ev d y args M none M' ∧ K M' := by
  obtain ⟨r, M', e, rfl, p⟩ := h
  exact ⟨M', e, hk M' p⟩
