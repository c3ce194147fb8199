/-! ===== a book is judged: the spec; the class ===== -/
def whyG (z : Nat → Int) (l : BL) : Int := if l.1 = 0 then (if z 5 < l.2.1 + l.2.2.1 then 9 else if z 93 = l.2.1 ∧ z 94 = l.2.2.1 ∧ z 95 = l.2.2.2 then 1 else 0) else if l.1 = 3 then (if 48 - z 89 < l.2.1 then 31 else 0) else if l.1 = 1 then (if bt (z 98).toNat l.2.1.toNat = 1 then 11 else 0) else (if z (112 + l.2.1.toNat) = 0 then (if bt (z 99).toNat l.2.1.toNat = 1 then 22 else 0) else 21)
def livG (z : Nat → Int) (l : BL) : Nat → Int := if l.1 = 0 then postsG z l.2.1 l.2.2.1 l.2.2.2 else if l.1 = 3 then hrsG z l.2.1.toNat else if l.1 = 1 then quitsG z l.2.1.toNat else upsG z l.2.1.toNat
def jdS (bk : Nat → BL) : Nat → Nat → (Nat → Int) → Int × Nat × (Nat → Int)
  | 0, i, z => (0, i, z)
  | r + 1, i, z => if whyG z (bk i) = 0 then jdS bk r (i + 1) (livG z (bk i)) else (whyG z (bk i), i, z)
def jdG (bk : Nat → BL) (m : Nat) (g : Nat → Int) : Int × Nat × (Nat → Int) := jdS bk m 0 g
theorem jdS_s {bk : Nat → BL} {r i : Nat} {z : Nat → Int} : jdS bk (r + 1) i z = if whyG z (bk i) = 0 then jdS bk r (i + 1) (livG z (bk i)) else (whyG z (bk i), i, z) := rfl
theorem bkOk_o {g g' : Nat → Int} {l : BL} (h : bkOk g l) (e : SameO g g') : bkOk g' l := by
  unfold bkOk at h ⊢
  rw [e 0 (by omega), e 1 (by omega), e 2 (by omega)]
  exact h
theorem whyG_b {z : Nat → Int} {l : BL} : 0 ≤ whyG z l ∧ whyG z l ≤ 31 := by
  unfold whyG
  split
  · split
    · omega
    · split <;> omega
  · split
    · split <;> omega
    · split
      · split <;> omega
      · split
        · split <;> omega
        · omega
theorem liv_ok {z : Nat → Int} {l : BL} (hs : RGs z) (hd : RGd z) (hn : RN z) (hl : bkOk z l) (hw : whyG z l = 0) : SameO z (livG z l) ∧ RGd (livG z l) ∧ RN (livG z l) := by
  have h1 := hs.1
  unfold whyG at hw
  unfold livG
  rcases hl with ⟨e, q1, q2, q3⟩ | ⟨e, q1, q2⟩ | ⟨e, q1, q2⟩ | ⟨e, q1, q2⟩
  · rw [if_pos e] at hw ⊢
    have c : ¬ z 5 < l.2.1 + l.2.2.1 := fun c => by
      rw [if_pos c] at hw
      exact absurd hw (by decide)
    exact ⟨postsG_o, RGd_posts hd (by omega) (by omega), hn⟩
  · rw [if_neg (by omega), if_neg (by omega), if_pos e]
    exact ⟨quitsG_o (by omega), RGd_quits hd (by omega), RN_quits hn (by omega)⟩
  · rw [if_neg (by omega), if_neg (by omega), if_neg (by omega)] at hw ⊢
    have b := RN_b hd hn
    have c1 : z (112 + l.2.1.toNat) = 0 := Classical.byContradiction fun c => by
      rw [if_neg c] at hw
      exact absurd hw (by decide)
    rw [if_pos c1] at hw
    have c2 : ¬ bt (z 99).toNat l.2.1.toNat = 1 := fun c => by
      rw [if_pos c] at hw
      exact absurd hw (by decide)
    exact ⟨upsG_o, RGd_ups hd (by omega) (by omega), RN_ups hd hn (by omega) c2⟩
  · rw [if_neg (by omega), if_pos e]
    obtain ⟨o1, o2, o3⟩ := hrsG_ok (n := l.2.1.toNat) hs hd hn
    exact ⟨hrsG_o hs hd hn, o2, o3⟩
theorem jd_ok {bk : Nat → BL} : ∀ (r i : Nat) (z : Nat → Int), RGs z → RGd z → RN z → (∀ j, i ≤ j → j < i + r → bkOk z (bk j)) → (SameO z (jdS bk r i z).2.2 ∧ RGd (jdS bk r i z).2.2 ∧ RN (jdS bk r i z).2.2) ∧ (i ≤ (jdS bk r i z).2.1 ∧ (jdS bk r i z).2.1 ≤ i + r ∧ ((jdS bk r i z).2.1 = i → (jdS bk r i z).2.2 = z)) ∧ 0 ≤ (jdS bk r i z).1 ∧ (jdS bk r i z).1 ≤ 31
  | 0, i, z, hs, hd, hn, hl => ⟨⟨SameO.refl, hd, hn⟩, ⟨Nat.le_refl _, Nat.le_refl _, fun _ => rfl⟩, Int.le_refl _, show (0 : Int) ≤ 31 by decide⟩
  | r + 1, i, z, hs, hd, hn, hl => by
    rw [jdS_s]
    by_cases c : whyG z (bk i) = 0
    · rw [if_pos c]
      obtain ⟨o1, o2, o3⟩ := liv_ok hs hd hn (hl i (by omega) (by omega)) c
      obtain ⟨⟨a1, a2, a3⟩, ⟨a4, a5, a6⟩, a7⟩ := jd_ok (bk := bk) r (i + 1) _ (hs.same o1.s) o2 o3 (fun j j1 j2 => bkOk_o (hl j (by omega) (by omega)) o1)
      exact ⟨⟨o1.trans a1, a2, a3⟩, ⟨by omega, by omega, fun e => absurd e (by omega)⟩, a7⟩
    · rw [if_neg c]
      have := whyG_b (z := z) (l := bk i)
      exact ⟨⟨SameO.refl, hd, hn⟩, ⟨Nat.le_refl _, by show i ≤ i + (r + 1); omega, fun _ => rfl⟩, this⟩
section CJD
variable {M : Mm} {ps m : Nat} {g z : Nat → Int} {bk : Nat → BL}
theorem c_whyWrong {d i : Nat} (hp : St ps) (hr : CSr M ps g) (hs : RGs g) (he : SameO g z) (hc : CSt M 205 z) (hd : RGd z) (hk : CBk M m bk) (hi : i < m) (hm : m ≤ 40) (hl : bkOk g (bk i)) : Ev (d + 3) 176 [.ref 30, .ref ps, .ref 205, .int (I i)] M (some (.int (I (whyG z (bk i))))) M := by
  have ho : Sa 205 := by simp [Sa]
  have h1 := hs.1
  have hd1 := hd.1
  have zs : RGs z := hs.same he.s
  have e5 : z 5 = g 5 := he 5 (by omega)
  obtain ⟨k1, k2, k3⟩ := hk.2 i hi
  have i4 : inR (I (i : Int)) 40 := inRI (by omega) (by omega) (by omega)
  apply Ev.ofQ
  apply e_Book_whyWrong hp ho
  intro At _
  rw [ixI (by omega) (by omega), Int.toNat_natCast, k1, hr.1.2.2.2.2.2.1, hc.1.1]
  unfold whyG
  rcases hl with ⟨e, q1, q2, q3⟩ | ⟨e, q1, q2⟩ | ⟨e, q1, q2⟩ | ⟨e, q1, q2⟩
  · obtain ⟨k4, k5, k6⟩ := k2 e
    rw [e, if_pos rfl, k4, k5, k6, I_add, I_lt (by omega) (by omega) (by omega) (by omega), e5]
    refine ⟨i4, Or.inr (by omega), fun _ => ⟨i4, i4, fun c => ?_, fun c => ⟨i4, i4, i4, _, _, c_isPosted ho hc zs hd (by omega) (by omega) (by omega), fun c2 => ?_, fun c2 => ?_⟩⟩, fun c => absurd rfl c⟩
    · rw [if_pos c]
      exact ⟨rfl, rfl⟩
    · rw [bI0] at c2
      rw [if_neg c, if_neg c2]
      exact ⟨rfl, rfl⟩
    · rw [bI0] at c2
      rw [if_neg c, if_pos (Decidable.of_not_not c2)]
      exact ⟨rfl, rfl⟩
  · rw [e, if_neg (by decide), if_neg (by decide), if_pos rfl, k3 (by omega)]
    obtain ⟨w, hw⟩ := Nn q1
    have hb := bt_lt (z 98).toNat w
    rw [hw, Int.toNat_natCast]
    refine ⟨i4, Or.inr (by omega), fun c => absurd c (by decide), fun _ => ⟨i4, fun c => absurd c (by decide), fun _ => ⟨i4, fun _ => ⟨i4, _, _, c_whyNotQuit ho hc hd (by omega), ?_⟩, fun c => absurd rfl c⟩⟩⟩
    rw [I_ne (by omega) (by omega) (by omega) (by omega), I_add]
    refine ⟨fun c => ?_, fun c => ?_⟩
    · rw [if_neg (by omega)]
      exact ⟨rfl, rfl⟩
    · rw [if_pos (by omega), show bt (z 98).toNat w = 1 by omega]
      exact ⟨rfl, rfl⟩
  · rw [e, if_neg (by decide), if_neg (by decide), if_neg (by decide), k3 (by omega)]
    obtain ⟨w, hw⟩ := Nn q1
    rw [hw, Int.toNat_natCast]
    refine ⟨i4, Or.inr (by omega), fun c => absurd c (by decide), fun _ => ⟨i4, fun c => absurd c (by decide), fun _ => ⟨i4, fun c => absurd c (by decide), fun _ => ⟨i4, _, _, c_whyNotUp ho hc hd (by omega), ?_⟩⟩⟩⟩
    by_cases c1 : z (112 + w) = 0
    · rw [if_pos c1, if_pos c1]
      by_cases c2 : bt (z 99).toNat w = 1
      · rw [if_pos c2, if_pos c2]
        exact ⟨fun y => absurd y (by decide), fun _ => ⟨rfl, rfl⟩⟩
      · rw [if_neg c2, if_neg c2]
        exact ⟨fun _ => ⟨rfl, rfl⟩, fun y => absurd rfl y⟩
    · rw [if_neg c1, if_neg c1]
      exact ⟨fun y => absurd y (by decide), fun _ => ⟨rfl, rfl⟩⟩
  · rw [e, if_neg (by decide), if_pos rfl, k3 (by omega), I_sub, I_lt (by omega) (by omega) (by omega) (by omega)]
    refine ⟨i4, Or.inr (by omega), fun c => absurd c (by decide), fun _ => ⟨i4, fun _ => ⟨i4, fun c => ?_, fun c => ?_⟩, fun c => absurd rfl c⟩⟩
    · rw [if_pos c]
      exact ⟨rfl, rfl⟩
    · rw [if_neg c]
      exact ⟨rfl, rfl⟩
theorem c_live {d i : Nat} (hp : St ps) (hr : CSr M ps g) (hs : RGs g) (he : SameO g z) (hc : CSt M 205 z) (hd : RGd z) (hn : RN z) (hk : CBk M m bk) (hi : i < m) (hm : m ≤ 40) (hl : bkOk g (bk i)) : EvQ (d + 6) 177 [.ref 30, .ref ps, .ref 205, .int (I i)] M fun r N => r = none ∧ CSt N 205 (livG z (bk i)) ∧ Fr 205 209 M N := by
  have ho : Sa 205 := by simp [Sa]
  have h1 := hs.1
  have zs : RGs z := hs.same he.s
  have hrz : CSr M ps z := CSr.same hs hr he.s
  obtain ⟨k1, k2, k3⟩ := hk.2 i hi
  have i4 : inR (I (i : Int)) 40 := inRI (by omega) (by omega) (by omega)
  apply e_Book_live hp ho
  intro At _
  rw [ixI (by omega) (by omega), Int.toNat_natCast, k1]
  unfold livG
  rcases hl with ⟨e, q1, q2, q3⟩ | ⟨e, q1, q2⟩ | ⟨e, q1, q2⟩ | ⟨e, q1, q2⟩
  · obtain ⟨k4, k5, k6⟩ := k2 e
    rw [e, if_pos rfl, k4, k5, k6]
    exact ⟨i4, Or.inr (by omega), fun _ => ⟨i4, i4, i4, q_non (c_takePosts ho hc) fun N hN => ⟨rfl, hN⟩⟩, fun c => absurd rfl c⟩
  · rw [e, if_neg (by decide), if_neg (by decide), if_pos rfl, k3 (by omega)]
    obtain ⟨w, hw⟩ := Nn q1
    rw [hw, Int.toNat_natCast]
    exact ⟨i4, Or.inr (by omega), fun c => absurd c (by decide), fun _ => ⟨i4, fun c => absurd c (by decide), fun _ => ⟨i4, fun _ => ⟨i4, q_non (c_giveUpWall ho hc hd (by omega)) fun N hN => ⟨rfl, hN⟩⟩, fun c => absurd rfl c⟩⟩⟩
  · rw [e, if_neg (by decide), if_neg (by decide), if_neg (by decide), k3 (by omega)]
    obtain ⟨w, hw⟩ := Nn q1
    rw [hw, Int.toNat_natCast]
    exact ⟨i4, Or.inr (by omega), fun c => absurd c (by decide), fun _ => ⟨i4, fun c => absurd c (by decide), fun _ => ⟨i4, fun c => absurd c (by decide), fun _ => ⟨i4, q_non (c_carryUp ho hc hd (by omega)) fun N hN => ⟨rfl, hN⟩⟩⟩⟩⟩
  · rw [e, if_neg (by decide), if_pos rfl, k3 (by omega)]
    obtain ⟨w, hw⟩ := Nn (show 0 ≤ (bk i).2.1 by omega)
    rw [hw, Int.toNat_natCast]
    exact ⟨i4, Or.inr (by omega), fun c => absurd c (by decide), fun _ => ⟨i4, fun _ => ⟨i4, q_non (c_goHours ho hp hrz hc zs hd hn (by omega)) fun N hN => ⟨rfl, hN⟩⟩, fun c => absurd rfl c⟩⟩
/-- what was told of the latest book, on the class's side -/
def CTd (M : Mm) (tk : Nat) (tv : Nat → Int) : Prop := M.1 30 5 = I (tk : Int) ∧ (tk = 1 → M.1 30 6 = I (tv 0) ∧ M.1 30 7 = I (tv 1) ∧ M.1 30 8 = I (tv 2) ∧ M.1 30 9 = I (tv 3))
def tdG (w : Int) (l : Nat) (z : Nat → Int) : Nat → Int := fun k => if k = 0 then w else if k = 1 then (l : Int) else if k = 2 then z 89 else savedG z
theorem c_judge {d : Nat} (hp : St ps) (hr : CSr M ps g) (hs : RGs g) (hc : CSt M 205 g) (hd : RGd g) (hn : RN g) (hk : CBk M m bk) (hm : m ≤ 40) (hl : ∀ i, i < m → bkOk g (bk i)) : EvQ (d + 7) 175 [.ref 30, .ref ps, .ref 205] M fun r N => r = none ∧ CSt N 205 (jdG bk m g).2.2 ∧ CTd N 1 (tdG (jdG bk m g).1 (jdG bk m g).2.1 (jdG bk m g).2.2) ∧ Fr2 30 31 205 209 M N := by
  have ho : Sa 205 := by simp [Sa]
  have hlo := St_far hp
  have hl2 := St_lo hp
  generalize hR : jdG bk m g = R
  apply e_Book_judge hp ho
  intro At step
  have K : ∀ N : Mm, Fr2 30 31 205 209 M N → N.1 30 4 = M.1 30 4 → CBk N m bk := by
    intro N hF h4
    unfold CBk at hk ⊢
    rw [h4, (hF 31 (by omega) (by omega)).2.2, (hF 32 (by omega) (by omega)).1, (hF 33 (by omega) (by omega)).1, (hF 34 (by omega) (by omega)).1]
    exact hk
  have fin : ∀ (N : Mm) (i : Nat) (w : Int) (z : Nat → Int) (x3 : Int32), Fr2 30 31 205 209 M N → CSt N 205 z → SameO g z → RGd z → N.1 30 6 = I w → N.1 30 7 = I (i : Int) → R = (w, i, z) → ∃ (v11 : Int32), ∃ (N10 : Mm), (Ev (d + 6) 218 [.ref 205, .ref ps] (sI N 30 8 (N.1 205 0)) (some (.int v11)) N10 ∧ (none = (none : Option Value) ∧ CSt (sI (sI N10 30 9 v11) 30 5 (I 1)) 205 R.2.2 ∧ CTd (sI (sI N10 30 9 v11) 30 5 (I 1)) 1 (tdG R.1 R.2.1 R.2.2) ∧ Fr2 30 31 205 209 M (sI (sI N10 30 9 v11) 30 5 (I 1)))) := by
    intro N i w z x3 hF hcz he hdz h6 h7 hRR
    have zs := hs.same he.s
    have hrN : CSr (sI N 30 8 (N.1 205 0)) ps z := CSr.same hs (hr.of fun a a1 a2 => by rw [mI_fn (by omega), (hF a (by omega) (by omega)).1]) he.s
    have hcN : CSt (sI N 30 8 (N.1 205 0)) 205 z := hcz.of fun a a1 a2 => mI_fn (by omega)
    refine ⟨_, _, c_saved ho hp hrN hcN zs hdz, rfl, ?_, ⟨mI_eq, fun _ => ?_⟩, ?_⟩
    · rw [hRR]
      exact hcN.of fun a a1 a2 => by rw [mI_fn (by omega), mI_fn (by omega)]
    · rw [hRR]
      refine ⟨?_, ?_, ?_, ?_⟩
      · rw [mI_n2 (by decide), mI_n2 (by decide), mI_n2 (by decide)]
        exact h6
      · rw [mI_n2 (by decide), mI_n2 (by decide), mI_n2 (by decide)]
        exact h7
      · rw [mI_n2 (by decide), mI_n2 (by decide), mI_eq]
        exact hcz.1.1
      · rw [mI_n2 (by decide), mI_eq]
        rfl
    · exact ((hF.trans (Fr.two (Fr.sI (by omega) (by omega)))).trans (Fr.two (Fr.sI (by omega) (by omega)))).trans (Fr.two (Fr.sI (by omega) (by omega)))
  have key : ∀ (r i : Nat) (z : Nat → Int) (N : Mm), i + r = m → Fr2 30 31 205 209 M N → N.1 30 4 = M.1 30 4 → CSt N 205 z → SameO g z → RGd z → RN z → N.1 30 6 = I 0 → N.1 30 7 = I (i : Int) → jdS bk r i z = R → At 12 [.ref 30, .ref ps, .ref 205, .int (I i)] [] N := by
    intro r
    induction r with
    | zero =>
      intro i z N hi hF h4 hcz he hdz hnz h6 h7 hRR
      apply s_Book_judge_12 hp ho step
      rw [h4, hk.1, I_lt (by omega) (by omega) (by omega) (by omega)]
      exact ⟨fun q => absurd q (by omega), fun _ => fin N i 0 z (I i) hF hcz he hdz h6 h7 hRR.symm⟩
    | succ r ih =>
      intro i z N hi hF h4 hcz he hdz hnz h6 h7 hRR
      have zs := hs.same he.s
      have hrN : CSr N ps g := hr.of fun a a1 a2 => (hF a (by omega) (by omega)).1
      have hkN := K N hF h4
      have wb := whyG_b (z := z) (l := bk i)
      rw [jdS_s] at hRR
      apply s_Book_judge_12 hp ho step
      rw [h4, hk.1, h6, I_lt (by omega) (by omega) (by omega) (by omega)]
      refine ⟨fun _ => ⟨fun _ => ⟨_, _, c_whyWrong hp hrN hs he hcz hdz hkN (by omega) hm (hl i (by omega)), ?_⟩, fun q => absurd rfl q⟩, fun q => absurd (by omega) q⟩
      rw [I_ne (by omega) (by omega) (by omega) (by omega), I_add]
      refine ⟨fun q => ?_, fun q => ?_⟩
      · rw [if_pos q] at hRR
        rw [q]
        obtain ⟨o1, o2, o3⟩ := liv_ok zs hdz hnz (bkOk_o (hl i (by omega)) he) q
        have hF6 : Fr2 30 31 205 209 M (sI N 30 6 (I 0)) := hF.trans (Fr.two (Fr.sI (by omega) (by omega)))
        have hr6 : CSr (sI N 30 6 (I 0)) ps g := hrN.of fun a a1 a2 => mI_fn (by omega)
        have hc6 : CSt (sI N 30 6 (I 0)) 205 z := hcz.of fun a a1 a2 => mI_fn (by omega)
        refine q_non (c_live hp hr6 hs he hc6 hdz hnz (K _ hF6 (by rw [mI_n2 (by decide)]; exact h4)) (by omega) hm (hl i (by omega))) ?_
        rintro N8 ⟨hc8, f8⟩
        have e7 : N8.1 30 7 = I (i : Int) := by rw [(f8 30 (by omega)).1, mI_n2 (by decide)]; exact h7
        rw [e7, I_add]
        refine ih (i + 1) _ _ (by omega) ((hF6.trans (Fr.two' f8)).trans (Fr.two (Fr.sI (by omega) (by omega)))) ?_ (hc8.of fun a a1 a2 => mI_fn (by omega)) (he.trans o1) o2 o3 ?_ ?_ hRR
        · rw [mI_n2 (by decide), (f8 30 (by omega)).1, mI_n2 (by decide)]
          exact h4
        · rw [mI_n2 (by decide), (f8 30 (by omega)).1, mI_eq]
        · rw [mI_eq]
          rfl
      · rw [if_neg q] at hRR
        apply s_Book_judge_12 hp ho step
        rw [mI_n2 (show 4 ≠ 6 by decide), h4, hk.1, mI_eq, I_ne (by omega) (by omega) (by omega) (by omega)]
        have fn := fin (sI N 30 6 (I (whyG z (bk i)))) i (whyG z (bk i)) z (I i) (hF.trans (Fr.two (Fr.sI (by omega) (by omega)))) (hcz.of fun a a1 a2 => mI_fn (by omega)) he hdz mI_eq (by rw [mI_n2 (by decide)]; exact h7) hRR.symm
        exact ⟨fun _ => ⟨fun y => absurd y q, fun _ => fn⟩, fun _ => fn⟩
  refine key m 0 g _ (by omega) ((Fr.two (Fr.sI (by omega) (by omega))).trans (Fr.two (Fr.sI (by omega) (by omega)))) (by rw [mI_n2 (by decide), mI_n2 (by decide)]) (hc.of fun a a1 a2 => by rw [mI_fn (by omega), mI_fn (by omega)]) SameO.refl hd hn (by rw [mI_n2 (by decide), mI_eq]) mI_eq hR
end CJD
