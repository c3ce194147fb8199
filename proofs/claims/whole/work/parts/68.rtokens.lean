/-! ===== tokens: the reference's ===== -/
def wRr (b : Nat → Nat) (q : Nat) : Nat → Nat
  | 0 => 0
  | k + 1 => wRr b q k * 256 + b (q + k)
theorem wRr_s {b : Nat → Nat} {q k : Nat} : wRr b q (k + 1) = wRr b q k * 256 + b (q + k) := rfl
theorem wRr_b {b : Nat → Nat} {q : Nat} (hb : ∀ k, b (q + k) < 256) : ∀ k : Nat, wRr b q k < 256 ^ k
  | 0 => Nat.pow_pos (n := 0) (by decide : 0 < 256)
  | k + 1 => by
    have ih := wRr_b hb k
    have := hb k
    rw [wRr_s, Nat.pow_succ]
    omega
theorem shl_or {x c : Nat} (hx : x < 281474976710656) (hc : c < 256) : (J x <<< ((I 8).toInt64 &&& 63)) ||| (I (c : Int)).toInt64 = J (x * 256 + c) := by
  rw [to64 c hc, show ((I 8).toInt64 &&& 63 : Int64) = J 8 from by decide]
  apply Int64.toBitVec_inj.mp
  rw [Int64.toBitVec_or, Int64.toBitVec_shiftLeft]
  show (BitVec.ofInt 64 (x : Int) <<< ((J 8).toBitVec.smod 64)) ||| BitVec.ofInt 64 (c : Int) = BitVec.ofInt 64 ((x * 256 + c : Nat) : Int)
  rw [show (J 8).toBitVec.smod 64 = (8 : BitVec 64) from by decide]
  apply BitVec.eq_of_toNat_eq
  rw [BitVec.toNat_or]
  show (BitVec.ofInt 64 (x : Int) <<< (8 : BitVec 64)).toNat ||| _ = _
  have ex : ∀ z : Nat, z < 18446744073709551616 → (BitVec.ofInt 64 (z : Int)).toNat = z := fun z hz => by
    rw [BitVec.toNat_ofInt]
    omega
  rw [BitVec.shiftLeft_eq', BitVec.toNat_shiftLeft, ex x (by omega), ex c (by omega), ex (x * 256 + c) (by omega), show (8 : BitVec 64).toNat = 8 from rfl, Nat.mod_eq_of_lt (by rw [Nat.shiftLeft_eq]; omega), ← Nat.shiftLeft_add_eq_or_of_lt (show c < 2 ^ 8 by omega), Nat.shiftLeft_eq]
def TRr (M : Mm) (n : Nat) (b : Nat → Nat) : Prop := M.1 400 3 = I n ∧ n ≤ 940 ∧ ∀ k, k < n → M.1 401 k = sb (b k) ∧ b k < 256
def pkA (b : Nat → Nat) (n p : Nat) : Int := if p < n then (b p : Int) else -1
section RTK
variable {M : Mm}
theorem r_peek {d n p : Nat} {b : Nat → Nat} (hT : TRr M n b) (h4 : M.1 400 4 = I p) (hp : p ≤ n) : Ev (d + 1) 65 [.ref 400] M (some (.int (I (pkA b n p)))) M := by
  have h940 := hT.2.1
  apply Ev.ofQ
  apply e_R_peek
  intro At _
  unfold pkA
  rw [h4, hT.1, I_lt (by omega) (by omega) (by omega) (by omega), ixI (by omega) (by omega), Int.toNat_natCast]
  refine ⟨fun q => ?_, fun q => ?_⟩
  · obtain ⟨y1, y2⟩ := hT.2.2 p (by omega)
    rw [if_pos (by omega), y1, sb_and0 _ y2]
    exact ⟨inRI (by omega) (by omega) (by omega), rfl, rfl⟩
  · rw [if_neg (by omega)]
    exact ⟨rfl, rfl⟩
theorem pkA_b {b : Nat → Nat} {n p : Nat} (hb : ∀ k, k < n → b k < 256) : -1 ≤ pkA b n p ∧ pkA b n p < 256 := by
  unfold pkA
  split
  · have := hb p (by assumption)
    omega
  · omega
theorem r_isSmall {d : Nat} {c : Int} (hc : -1 ≤ c ∧ c < 256) : Ev (d + 1) 66 [.int (I c)] M (some (.int (I (if 97 ≤ c ∧ c ≤ 122 then 1 else 0)))) M := by
  apply Ev.ofQ
  apply e_R_isSmall
  intro At _
  rw [I_lt (by omega) (by omega) (by omega) (by omega), I_lt (by omega) (by omega) (by omega) (by omega)]
  refine ⟨fun q => ?_, fun q => ⟨fun q2 => ?_, fun q2 => ?_⟩⟩
  · rw [if_neg (by omega)]
    exact ⟨rfl, rfl⟩
  · rw [if_neg (by omega)]
    exact ⟨rfl, rfl⟩
  · rw [if_pos (by omega)]
    exact ⟨rfl, rfl⟩
theorem r_isDigit {d : Nat} {c : Int} (hc : -1 ≤ c ∧ c < 256) : Ev (d + 1) 67 [.int (I c)] M (some (.int (I (if 48 ≤ c ∧ c ≤ 57 then 1 else 0)))) M := by
  apply Ev.ofQ
  apply e_R_isDigit
  intro At _
  rw [I_lt (by omega) (by omega) (by omega) (by omega), I_lt (by omega) (by omega) (by omega) (by omega)]
  refine ⟨fun q => ?_, fun q => ⟨fun q2 => ?_, fun q2 => ?_⟩⟩
  · rw [if_neg (by omega)]
    exact ⟨rfl, rfl⟩
  · rw [if_neg (by omega)]
    exact ⟨rfl, rfl⟩
  · rw [if_pos (by omega)]
    exact ⟨rfl, rfl⟩
end RTK
