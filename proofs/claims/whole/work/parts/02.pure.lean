/-! numbers of this claim: words of 12 bits, masks, fields -/
theorem pt_or (a b : Nat) : nI a ||| nI b = nI (a ||| b) := by
  apply Int32.toBitVec_inj.1
  show BitVec.ofNat 32 a ||| BitVec.ofNat 32 b = BitVec.ofNat 32 (a ||| b)
  apply BitVec.eq_of_getLsbD_eq
  intro i hi
  simp [hi]
theorem pt_pw {s : Nat} (hs : s ≤ 12) : 2 ^ s ≤ 4096 := Nat.pow_le_pow_right (n := 2) (by decide) hs
theorem pt_pp (s : Nat) : 0 < 2 ^ s := Nat.two_pow_pos s
theorem pt_shl {n k : Nat} (hk : k < 32) (h : n * 2 ^ k < 2 ^ 32) : nI n <<< (nI k &&& 31) = nI (n * 2 ^ k) := pk_shlN _ k (s_l k hk) h
theorem pt_shr {n k : Nat} (h : n < 2 ^ 31) (hk : k < 32) : nI n >>> (nI k &&& 31) = nI (n / 2 ^ k) := pk_shrN h _ k (s_l k hk)
theorem pt_one {s : Nat} (hs : s ≤ 12) : (1 : Int32) <<< (nI s &&& 31) = nI (2 ^ s) := by
  have h := pt_pw hs
  have e := pt_shl (n := 1) (k := s) (by omega) (by omega)
  rw [Nat.one_mul] at e
  exact e
theorem pt_ones {s : Nat} (hs : s ≤ 12) : (1 : Int32) <<< (nI s &&& 31) - 1 = nI (2 ^ s - 1) := by
  rw [pt_one hs]
  exact pk_sub (a := 2 ^ s) (b := 1) (pt_pp s)
theorem pt_bt {n i : Nat} (hi : i < 32) : bt (nI n) i = n.testBit i := by
  show (BitVec.ofNat 32 n).getLsbD i = _
  rw [BitVec.getLsbD_ofNat]
  simp [hi]
theorem pt_hi {n i : Nat} (h : n < 4096) (hi : 12 ≤ i) : n.testBit i = false :=
  Nat.testBit_lt_two_pow (Nat.lt_of_lt_of_le (show n < 2 ^ 12 from h) (Nat.pow_le_pow_right (by decide) hi))
/-- bits within the mask -/
theorem pt_sub {b m : Nat} (hb : b < 4096) (h : nI b &&& (nI m ^^^ (-1)) = 0) : b &&& m = b := by
  apply Nat.eq_of_testBit_eq
  intro i
  rw [Nat.testBit_and]
  rcases Nat.lt_or_ge i 12 with hi | hi
  · have e : bt (nI b &&& (nI m ^^^ (-1))) i = bt 0 i := by rw [h]
    rw [b_and, b_xor, b_0, b_m1 i (by omega), pt_bt (by omega), pt_bt (by omega)] at e
    revert e
    cases b.testBit i <;> cases m.testBit i <;> simp
  · rw [pt_hi hb hi]
    rfl
/-- two patterns meet in a word just where no bit that both fix is fixed differently -/
theorem pt_ov {m f M B : Nat} (hf : f &&& m = f) (hB : B &&& M = B) (hf4 : f < 4096) (hB4 : B < 4096) :
    (m &&& M) &&& (f ^^^ B) = 0 ↔ ∃ w, w < 4096 ∧ w &&& M = B ∧ w &&& m = f := by
  have ef : ∀ i, (f.testBit i && m.testBit i) = f.testBit i := fun i => by rw [← Nat.testBit_and, hf]
  have eB : ∀ i, (B.testBit i && M.testBit i) = B.testBit i := fun i => by rw [← Nat.testBit_and, hB]
  constructor
  · intro h
    have e : ∀ i, ((m.testBit i && M.testBit i) && (f.testBit i ^^ B.testBit i)) = false := fun i => by
      rw [← Nat.testBit_xor, ← Nat.testBit_and, ← Nat.testBit_and, h, Nat.zero_testBit]
    refine ⟨B ||| f, Nat.or_lt_two_pow (n := 12) hB4 hf4, Nat.eq_of_testBit_eq fun i => ?_, Nat.eq_of_testBit_eq fun i => ?_⟩
    · rw [Nat.testBit_and, Nat.testBit_or]
      have a := ef i
      have b := eB i
      have c := e i
      revert a b c
      cases m.testBit i <;> cases M.testBit i <;> cases f.testBit i <;> cases B.testBit i <;> decide
    · rw [Nat.testBit_and, Nat.testBit_or]
      have a := ef i
      have b := eB i
      have c := e i
      revert a b c
      cases m.testBit i <;> cases M.testBit i <;> cases f.testBit i <;> cases B.testBit i <;> decide
  · rintro ⟨w, hw, h1, h2⟩
    apply Nat.eq_of_testBit_eq
    intro i
    rw [Nat.testBit_and, Nat.testBit_and, Nat.testBit_xor, Nat.zero_testBit, ← h1, ← h2, Nat.testBit_and, Nat.testBit_and]
    cases m.testBit i <;> cases M.testBit i <;> cases w.testBit i <;> decide
/-- a stretch of bits free of the mask -/
theorem pt_free {m l s : Nat} : m &&& ((2 ^ s - 1) * 2 ^ l) = 0 ↔ ∀ b, l ≤ b → b < l + s → m / 2 ^ b % 2 = 0 := by
  have eb : ∀ b, m.testBit b = decide (m / 2 ^ b % 2 = 1) := fun b => Nat.testBit_eq_decide_div_mod_eq
  have et : ∀ b, ((2 ^ s - 1) * 2 ^ l).testBit b = (decide (l ≤ b) && decide (b - l < s)) := fun b => by
    rw [Nat.testBit_mul_two_pow, Nat.testBit_two_pow_sub_one]
  constructor
  · intro h b h1 h2
    have e : (m.testBit b && (decide (l ≤ b) && decide (b - l < s))) = false := by
      rw [← et, ← Nat.testBit_and, h, Nat.zero_testBit]
    rw [decide_eq_true h1, decide_eq_true (show b - l < s by omega), eb] at e
    have e2 : ¬ m / 2 ^ b % 2 = 1 := by
      intro z
      rw [decide_eq_true z] at e
      exact absurd e (by decide)
    generalize m / 2 ^ b = z at e2 ⊢
    omega
  · intro h
    apply Nat.eq_of_testBit_eq
    intro b
    rw [Nat.testBit_and, et, eb, Nat.zero_testBit]
    by_cases h1 : l ≤ b
    · by_cases h2 : b - l < s
      · rw [h b h1 (by omega)]
        rfl
      · rw [decide_eq_false h2, Bool.and_false, Bool.and_false]
    · rw [decide_eq_false h1, Bool.false_and, Bool.and_false]
/-- what a field of s bits reads as where its bits are n: z is the sign's flag -/
def pt_rd (z : Int32) (s n : Nat) : Int32 := if z = 0 then nI n else if n < 2 ^ (s - 1) then nI n else nI n - nI (2 ^ s)
theorem pt_wrap {n P : Nat} (hP : P ≤ 2 ^ 32) : nI n - nI P = nI (n + (2 ^ 32 - P)) := by
  have e : nI (n + (2 ^ 32 - P)) + nI P = nI n := by
    rw [nI_add, show n + (2 ^ 32 - P) + P = n + 2 ^ 32 from by omega, ← nI_add, show nI (2 ^ 32) = 0 from by decide, Int32.add_zero]
  rw [← e, Int32.add_sub_cancel]
/-- the value's low bits are the field's bits -/
theorem pt_rdm {z v : Int32} {s n : Nat} (hs : s ≤ 12) (hn : n < 2 ^ s) (h : pt_rd z s n = v) : v &&& nI (2 ^ s - 1) = nI n := by
  have hp := pt_pw hs
  have h0 := pt_pp s
  rw [pk_and v s (pk_tn (by omega))]
  have key : v = nI n ∨ v = nI n - nI (2 ^ s) := by
    rw [← h]
    unfold pt_rd
    split
    · exact Or.inl rfl
    · split
      · exact Or.inl rfl
      · exact Or.inr rfl
  rcases key with e | e
  · rw [e, pk_tn (by omega), Nat.mod_eq_of_lt hn]
  · rw [e, pt_wrap (by omega), pk_tn (by omega)]
    have e2 : 2 ^ 32 = 2 ^ s * 2 ^ (32 - s) := by rw [← Nat.pow_add, show s + (32 - s) = 32 from by omega]
    have e3 : n + (2 ^ 32 - 2 ^ s) = n + 2 ^ s * (2 ^ (32 - s) - 1) := by rw [Nat.mul_sub, ← e2, Nat.mul_one]
    rw [e3, Nat.add_mul_mod_self_left, Nat.mod_eq_of_lt hn]
theorem pt_rdu {z : Int32} {s n n' : Nat} (hs : s ≤ 12) (hn : n < 2 ^ s) (hn' : n' < 2 ^ s) (h : pt_rd z s n = pt_rd z s n') : n = n' := by
  have hp := pt_pw hs
  have a := pt_rdm hs hn h
  rw [pt_rdm hs hn' rfl] at a
  exact ((nI_eq (by omega) (by omega)).mp a).symm
theorem pt_half {s : Nat} (h1 : 1 ≤ s) : 2 ^ s = 2 ^ (s - 1) + 2 ^ (s - 1) := by
  obtain ⟨t, rfl⟩ : ∃ t, s = t + 1 := ⟨s - 1, by omega⟩
  rw [Nat.add_sub_cancel, Nat.pow_succ]
  omega
/-- the values of a field without sign -/
theorem pt_uns {v : Int32} {s : Nat} (hs : s ≤ 12) : (∃ n, n < 2 ^ s ∧ pt_rd 0 s n = v) ↔ (0 ≤ v ∧ v ≤ nI (2 ^ s - 1)) := by
  have hp := pt_pw hs
  have h0 := pt_pp s
  have e : ∀ n, pt_rd 0 s n = nI n := fun n => if_pos rfl
  constructor
  · rintro ⟨n, hn, rfl⟩
    rw [e]
    exact ⟨nI_pos' (by omega), nI_le (by omega) (by omega)⟩
  · rintro ⟨a, b⟩
    obtain ⟨j, hj, rfl⟩ := nI_of (x := v) (Int32.not_lt.mpr a)
    rw [nI_leI hj (by omega)] at b
    exact ⟨j, by omega, e j⟩
/-- the values of a field with sign -/
theorem pt_sig {z v : Int32} {s : Nat} (hz : ¬ z = 0) (h1 : 1 ≤ s) (hs : s ≤ 12) : (∃ n, n < 2 ^ s ∧ pt_rd z s n = v) ↔ (-nI (2 ^ (s - 1)) ≤ v ∧ v < nI (2 ^ (s - 1))) := by
  have hp := pt_pw hs
  have h0 := pt_pp (s - 1)
  have hh := pt_half h1
  have e : ∀ n, pt_rd z s n = if n < 2 ^ (s - 1) then nI n else nI n - nI (2 ^ s) := fun n => if_neg hz
  generalize hH : 2 ^ (s - 1) = H at *
  generalize 2 ^ s = P at *
  subst hh
  rw [Int32.le_iff_toInt_le, Int32.lt_iff_toInt_lt, sb_negT (by omega), nI_toInt (by omega)]
  constructor
  · rintro ⟨n, hn, rfl⟩
    rw [e]
    split
    · rw [nI_toInt (by omega)]
      omega
    · rw [pk_sub_toInt (by omega) (by omega)]
      omega
  · rintro ⟨a, b⟩
    by_cases hv : 0 ≤ v.toInt
    · refine ⟨v.toInt.toNat, by omega, ?_⟩
      rw [e, if_pos (by omega)]
      apply Int32.toInt_inj.mp
      rw [nI_toInt (by omega)]
      omega
    · refine ⟨(v.toInt + (H + H : Nat)).toNat, by omega, ?_⟩
      rw [e, if_neg (by omega)]
      apply Int32.toInt_inj.mp
      rw [pk_sub_toInt (by omega) (by omega)]
      omega
/-- one more bit of a sum of bits -/
theorem pt_bit (x b : Nat) : x % 2 ^ b + x / 2 ^ b % 2 * 2 ^ b = x % 2 ^ (b + 1) := by
  rw [Nat.mod_pow_succ, Nat.mul_comm]
/-- the last bit of a sum of bits, counted negative -/
theorem pt_last {z : Int32} {s x : Nat} (hz : ¬ z = 0) (h1 : 1 ≤ s) :
    nI (x % 2 ^ (s - 1)) + -nI (x / 2 ^ (s - 1) % 2 * 2 ^ (s - 1)) = pt_rd z s (x % 2 ^ s) := by
  have hh := pt_half h1
  have hb := pt_bit x (s - 1)
  rw [show s - 1 + 1 = s from by omega] at hb
  have hl : x % 2 ^ (s - 1) < 2 ^ (s - 1) := Nat.mod_lt _ (pt_pp _)
  have h2 : x / 2 ^ (s - 1) % 2 = 0 ∨ x / 2 ^ (s - 1) % 2 = 1 := by omega
  unfold pt_rd
  rw [if_neg hz, ← hb]
  rcases h2 with e | e
  · rw [e, Nat.zero_mul, Nat.add_zero, if_pos hl, nI_0, Int32.neg_zero, Int32.add_zero]
  · rw [e, Nat.one_mul, if_neg (by omega), hh, ← nI_add, ← nI_add]
    grind
