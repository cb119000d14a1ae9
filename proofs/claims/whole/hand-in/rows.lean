section
/-! rows pasted out of the rows folder of the kit -/
theorem pk_us {f : Nat → Int32} {k : Nat} {x : Int32} : upd f k x k = x := if_pos rfl
theorem pk_un {f : Nat → Int32} {k j : Nat} {x : Int32} (h : j ≠ k) : upd f k x j = f j := if_neg h
theorem pk_sub {a b : Nat} (h : b ≤ a) : nI a - nI b = nI (a - b) := by
  obtain ⟨c, rfl⟩ : ∃ c, a = c + b := ⟨a - b, by omega⟩
  rw [← nI_add, Int32.add_sub_cancel, Nat.add_sub_cancel]
theorem pk_m1 (n : Nat) : nI (n + 1) + (-1) = nI n := by
  rw [← nI_1, Int32.add_assoc, show (1 : Int32) + (-1) = 0 from rfl, Int32.add_zero]
theorem pk_mul (a b : Nat) : nI a * nI b = nI (a * b) := (Int32.ofNat_mul a b).symm
theorem pk_sub_toInt {a b : Nat} (ha : a < 2 ^ 30) (hb : b < 2 ^ 30) : (nI a - nI b).toInt = (a : Int) - b := by
  rw [Int32.toInt_sub, nI_toInt (by omega), nI_toInt (by omega)]
  exact Int.bmod_eq_of_le (by omega) (by omega)
theorem pk_ix (x : Int32) {n : Nat} (hn : n < 2 ^ 31) : x < 0 ∨ nI n ≤ x ∨ ∃ j : Nat, j < n ∧ x = nI j := by
  by_cases h : x < 0
  · exact Or.inl h
  · obtain ⟨j, hj, rfl⟩ := nI_of h
    by_cases h2 : j < n
    · exact Or.inr (Or.inr ⟨j, h2, rfl⟩)
    · exact Or.inr (Or.inl (nI_le (by omega) hj))
theorem pk_le {x y : Int32} {A B : Prop} (a b : Nat) (f : a ≤ b → A) (g : b < a → B) (hx : x = nI a := by rfl) (hy : y = nI b := by rfl) (ha : a < 2 ^ 31 := by omega) (hb : b < 2 ^ 31 := by omega) : (x ≤ y → A) ∧ (¬ x ≤ y → B) := by
  subst hx hy
  rw [nI_leI ha hb]
  exact ⟨f, fun z => g (by omega)⟩
theorem pk_lt {x y : Int32} {A B : Prop} (a b : Nat) (f : a < b → A) (g : b ≤ a → B) (hx : x = nI a := by rfl) (hy : y = nI b := by rfl) (ha : a < 2 ^ 31 := by omega) (hb : b < 2 ^ 31 := by omega) : (x < y → A) ∧ (¬ x < y → B) := by
  subst hx hy
  rw [nI_ltI ha hb]
  exact ⟨f, fun z => g (by omega)⟩
theorem pk_eq {x y : Int32} {A B : Prop} (a b : Nat) (f : a = b → A) (g : a ≠ b → B) (hx : x = nI a := by rfl) (hy : y = nI b := by rfl) (ha : a < 2 ^ 31 := by omega) (hb : b < 2 ^ 31 := by omega) : (x = y → A) ∧ (¬ x = y → B) := by
  subst hx hy
  rw [nI_eq ha hb]
  exact ⟨f, g⟩
theorem pk_in {x : Int32} (n N : Nat) (h : n < N) (hx : x = nI n := by rfl) (hN : N < 2 ^ 31 := by omega) : vp_in x N := by
  subst hx
  exact vp_in_nI h hN
theorem pk_cl {x : Int32} (n : Nat) (hx : x = nI n := by rfl) (h : n < 2 ^ 31 := by omega) : x.toNatClampNeg = n := by
  subst hx
  exact nI_clamp h
theorem pk_tn {n : Nat} (h : n < 2 ^ 32) : (nI n).toBitVec.toNat = n := Nat.mod_eq_of_lt h
theorem pk_and (x : Int32) {m : Int32} (k : Nat) (hm : m.toBitVec.toNat = 2 ^ k - 1) : x &&& m = nI (x.toBitVec.toNat % 2 ^ k) := by
  apply Int32.toBitVec_inj.mp
  apply BitVec.eq_of_toNat_eq
  rw [Int32.toBitVec_and, BitVec.toNat_and, hm, Nat.and_two_pow_sub_one_eq_mod]
  show _ = (BitVec.ofNat 32 _).toNat
  rw [BitVec.toNat_ofNat]
  exact (Nat.mod_eq_of_lt (Nat.lt_of_le_of_lt (Nat.mod_le _ _) x.toBitVec.isLt)).symm
theorem pk_andN {n : Nat} (h : n < 2 ^ 32) {m : Int32} (k : Nat) (hm : m.toBitVec.toNat = 2 ^ k - 1) : nI n &&& m = nI (n % 2 ^ k) := by
  rw [pk_and _ k hm, pk_tn h]
theorem pk_shl (a s : Int32) (k : Nat) (hs : (s.toBitVec.smod 32).toNat = k) : (a <<< s).toBitVec.toNat = a.toBitVec.toNat * 2 ^ k % 2 ^ 32 := by
  show (a.toBitVec <<< (s.toBitVec.smod 32).toNat).toNat = _
  rw [hs, BitVec.toNat_shiftLeft, Nat.shiftLeft_eq]
theorem pk_shlN {n : Nat} (s : Int32) (k : Nat) (hs : (s.toBitVec.smod 32).toNat = k) (h : n * 2 ^ k < 2 ^ 32) : nI n <<< s = nI (n * 2 ^ k) := by
  apply Int32.toBitVec_inj.mp
  apply BitVec.eq_of_toNat_eq
  have hn : n < 2 ^ 32 := Nat.lt_of_le_of_lt (Nat.le_mul_of_pos_right n (Nat.two_pow_pos k)) h
  rw [pk_shl _ _ k hs, pk_tn hn, pk_tn h, Nat.mod_eq_of_lt h]
theorem pk_shr (a s : Int32) (k : Nat) (hs : (s.toBitVec.smod 32).toNat = k) : (a >>> s).toInt = a.toInt >>> k := by
  show (a.toBitVec.sshiftRight (s.toBitVec.smod 32).toNat).toInt = _
  rw [hs, BitVec.toInt_sshiftRight]
  rfl
theorem pk_shrN {n : Nat} (h : n < 2 ^ 31) (s : Int32) (k : Nat) (hs : (s.toBitVec.smod 32).toNat = k) : nI n >>> s = nI (n / 2 ^ k) := by
  apply Int32.toInt_inj.mp
  have h2 : n / 2 ^ k ≤ n := Nat.div_le_self _ _
  rw [pk_shr _ _ k hs, nI_toInt h, nI_toInt (by omega), Int.shiftRight_eq_div_pow]
  rfl
theorem sb_negT {w : Nat} (h : w < 2 ^ 31) : (-nI w).toInt = -(w : Int) := by
  rw [Int32.toInt_neg, nI_toInt h]
  exact Int.bmod_eq_of_le (by omega) (by omega)
def bt (x : Int32) (i : Nat) : Bool := x.toBitVec.getLsbD i
theorem b_ext {x y : Int32} (h : ∀ i, i < 32 → bt x i = bt y i) : x = y := Int32.toBitVec_inj.mp (BitVec.eq_of_getLsbD_eq (fun i hi => h i hi))
theorem b_or (x y : Int32) (i : Nat) : bt (x ||| y) i = (bt x i || bt y i) := by unfold bt; rw [Int32.toBitVec_or, BitVec.getLsbD_or]
theorem b_and (x y : Int32) (i : Nat) : bt (x &&& y) i = (bt x i && bt y i) := by unfold bt; rw [Int32.toBitVec_and, BitVec.getLsbD_and]
theorem b_xor (x y : Int32) (i : Nat) : bt (x ^^^ y) i = (bt x i ^^ bt y i) := by unfold bt; rw [Int32.toBitVec_xor, BitVec.getLsbD_xor]
theorem b_m1 : ∀ i, i < 32 → bt (-1) i = true := by decide +kernel
theorem b_0 (i : Nat) : bt 0 i = false := BitVec.getLsbD_zero
theorem s_l : ∀ n, n < 32 → ((nI n &&& 31).toBitVec.smod 32).toNat = n := by decide +kernel
theorem nx_and (a b : Nat) : nI a &&& nI b = nI (a &&& b) := by
  apply Int32.toBitVec_inj.1
  show BitVec.ofNat 32 a &&& BitVec.ofNat 32 b = BitVec.ofNat 32 (a &&& b)
  apply BitVec.eq_of_getLsbD_eq
  intro i hi
  simp [hi]
theorem nx_xor (a b : Nat) : nI a ^^^ nI b = nI (a ^^^ b) := by
  apply Int32.toBitVec_inj.1
  show BitVec.ofNat 32 a ^^^ BitVec.ofNat 32 b = BitVec.ofNat 32 (a ^^^ b)
  apply BitVec.eq_of_getLsbD_eq
  intro i hi
  simp [hi]
end
section
/-! numbers of this claim: words of 12 bits, masks, fields -/
theorem pt_or (a b : Nat) : nI a ||| nI b = nI (a ||| b) := by
  apply Int32.toBitVec_inj.1
  show BitVec.ofNat 32 a ||| BitVec.ofNat 32 b = BitVec.ofNat 32 (a ||| b)
  apply BitVec.eq_of_getLsbD_eq
  intro i hi
  simp [hi]
theorem pt_pw {s : Nat} (hs : s ≤ 12) : 2 ^ s ≤ 4096 := Nat.pow_le_pow_right (n := 2) (by decide) hs
theorem pt_pp (s : Nat) : 0 < 2 ^ s := Nat.two_pow_pos s
theorem pt_shl {n k : Nat} (hk : k < 32) (h : n * 2 ^ k < 2 ^ 32) : nI n <<< (nI k &&& 31) = nI (n * 2 ^ k) := pk_shlN _ k (s_l k hk) h
theorem pt_shr {n k : Nat} (h : n < 2 ^ 31) (hk : k < 32) : nI n >>> (nI k &&& 31) = nI (n / 2 ^ k) := pk_shrN h _ k (s_l k hk)
theorem pt_one {s : Nat} (hs : s ≤ 12) : (1 : Int32) <<< (nI s &&& 31) = nI (2 ^ s) := by
  have h := pt_pw hs
  have e := pt_shl (n := 1) (k := s) (by omega) (by omega)
  rw [Nat.one_mul] at e
  exact e
theorem pt_ones {s : Nat} (hs : s ≤ 12) : (1 : Int32) <<< (nI s &&& 31) - 1 = nI (2 ^ s - 1) := by
  rw [pt_one hs]
  exact pk_sub (a := 2 ^ s) (b := 1) (pt_pp s)
theorem pt_bt {n i : Nat} (hi : i < 32) : bt (nI n) i = n.testBit i := by
  show (BitVec.ofNat 32 n).getLsbD i = _
  rw [BitVec.getLsbD_ofNat]
  simp [hi]
theorem pt_hi {n i : Nat} (h : n < 4096) (hi : 12 ≤ i) : n.testBit i = false :=
  Nat.testBit_lt_two_pow (Nat.lt_of_lt_of_le (show n < 2 ^ 12 from h) (Nat.pow_le_pow_right (by decide) hi))
/-- bits within the mask -/
theorem pt_sub {b m : Nat} (hb : b < 4096) (h : nI b &&& (nI m ^^^ (-1)) = 0) : b &&& m = b := by
  apply Nat.eq_of_testBit_eq
  intro i
  rw [Nat.testBit_and]
  rcases Nat.lt_or_ge i 12 with hi | hi
  · have e : bt (nI b &&& (nI m ^^^ (-1))) i = bt 0 i := by rw [h]
    rw [b_and, b_xor, b_0, b_m1 i (by omega), pt_bt (by omega), pt_bt (by omega)] at e
    revert e
    cases b.testBit i <;> cases m.testBit i <;> simp
  · rw [pt_hi hb hi]
    rfl
/-- two patterns meet in a word just where no bit that both fix is fixed differently -/
theorem pt_ov {m f M B : Nat} (hf : f &&& m = f) (hB : B &&& M = B) (hf4 : f < 4096) (hB4 : B < 4096) :
    (m &&& M) &&& (f ^^^ B) = 0 ↔ ∃ w, w < 4096 ∧ w &&& M = B ∧ w &&& m = f := by
  have ef : ∀ i, (f.testBit i && m.testBit i) = f.testBit i := fun i => by rw [← Nat.testBit_and, hf]
  have eB : ∀ i, (B.testBit i && M.testBit i) = B.testBit i := fun i => by rw [← Nat.testBit_and, hB]
  constructor
  · intro h
    have e : ∀ i, ((m.testBit i && M.testBit i) && (f.testBit i ^^ B.testBit i)) = false := fun i => by
      rw [← Nat.testBit_xor, ← Nat.testBit_and, ← Nat.testBit_and, h, Nat.zero_testBit]
    refine ⟨B ||| f, Nat.or_lt_two_pow (n := 12) hB4 hf4, Nat.eq_of_testBit_eq fun i => ?_, Nat.eq_of_testBit_eq fun i => ?_⟩
    · rw [Nat.testBit_and, Nat.testBit_or]
      have a := ef i
      have b := eB i
      have c := e i
      revert a b c
      cases m.testBit i <;> cases M.testBit i <;> cases f.testBit i <;> cases B.testBit i <;> decide
    · rw [Nat.testBit_and, Nat.testBit_or]
      have a := ef i
      have b := eB i
      have c := e i
      revert a b c
      cases m.testBit i <;> cases M.testBit i <;> cases f.testBit i <;> cases B.testBit i <;> decide
  · rintro ⟨w, hw, h1, h2⟩
    apply Nat.eq_of_testBit_eq
    intro i
    rw [Nat.testBit_and, Nat.testBit_and, Nat.testBit_xor, Nat.zero_testBit, ← h1, ← h2, Nat.testBit_and, Nat.testBit_and]
    cases m.testBit i <;> cases M.testBit i <;> cases w.testBit i <;> decide
/-- a stretch of bits free of the mask -/
theorem pt_free {m l s : Nat} : m &&& ((2 ^ s - 1) * 2 ^ l) = 0 ↔ ∀ b, l ≤ b → b < l + s → m / 2 ^ b % 2 = 0 := by
  have eb : ∀ b, m.testBit b = decide (m / 2 ^ b % 2 = 1) := fun b => Nat.testBit_eq_decide_div_mod_eq
  have et : ∀ b, ((2 ^ s - 1) * 2 ^ l).testBit b = (decide (l ≤ b) && decide (b - l < s)) := fun b => by
    rw [Nat.testBit_mul_two_pow, Nat.testBit_two_pow_sub_one]
  constructor
  · intro h b h1 h2
    have e : (m.testBit b && (decide (l ≤ b) && decide (b - l < s))) = false := by
      rw [← et, ← Nat.testBit_and, h, Nat.zero_testBit]
    rw [decide_eq_true h1, decide_eq_true (show b - l < s by omega), eb] at e
    have e2 : ¬ m / 2 ^ b % 2 = 1 := by
      intro z
      rw [decide_eq_true z] at e
      exact absurd e (by decide)
    generalize m / 2 ^ b = z at e2 ⊢
    omega
  · intro h
    apply Nat.eq_of_testBit_eq
    intro b
    rw [Nat.testBit_and, et, eb, Nat.zero_testBit]
    by_cases h1 : l ≤ b
    · by_cases h2 : b - l < s
      · rw [h b h1 (by omega)]
        rfl
      · rw [decide_eq_false h2, Bool.and_false, Bool.and_false]
    · rw [decide_eq_false h1, Bool.false_and, Bool.and_false]
/-- what a field of s bits reads as where its bits are n: z is the sign's flag -/
def pt_rd (z : Int32) (s n : Nat) : Int32 := if z = 0 then nI n else if n < 2 ^ (s - 1) then nI n else nI n - nI (2 ^ s)
theorem pt_wrap {n P : Nat} (hP : P ≤ 2 ^ 32) : nI n - nI P = nI (n + (2 ^ 32 - P)) := by
  have e : nI (n + (2 ^ 32 - P)) + nI P = nI n := by
    rw [nI_add, show n + (2 ^ 32 - P) + P = n + 2 ^ 32 from by omega, ← nI_add, show nI (2 ^ 32) = 0 from by decide, Int32.add_zero]
  rw [← e, Int32.add_sub_cancel]
/-- the value's low bits are the field's bits -/
theorem pt_rdm {z v : Int32} {s n : Nat} (hs : s ≤ 12) (hn : n < 2 ^ s) (h : pt_rd z s n = v) : v &&& nI (2 ^ s - 1) = nI n := by
  have hp := pt_pw hs
  have h0 := pt_pp s
  rw [pk_and v s (pk_tn (by omega))]
  have key : v = nI n ∨ v = nI n - nI (2 ^ s) := by
    rw [← h]
    unfold pt_rd
    split
    · exact Or.inl rfl
    · split
      · exact Or.inl rfl
      · exact Or.inr rfl
  rcases key with e | e
  · rw [e, pk_tn (by omega), Nat.mod_eq_of_lt hn]
  · rw [e, pt_wrap (by omega), pk_tn (by omega)]
    have e2 : 2 ^ 32 = 2 ^ s * 2 ^ (32 - s) := by rw [← Nat.pow_add, show s + (32 - s) = 32 from by omega]
    have e3 : n + (2 ^ 32 - 2 ^ s) = n + 2 ^ s * (2 ^ (32 - s) - 1) := by rw [Nat.mul_sub, ← e2, Nat.mul_one]
    rw [e3, Nat.add_mul_mod_self_left, Nat.mod_eq_of_lt hn]
theorem pt_rdu {z : Int32} {s n n' : Nat} (hs : s ≤ 12) (hn : n < 2 ^ s) (hn' : n' < 2 ^ s) (h : pt_rd z s n = pt_rd z s n') : n = n' := by
  have hp := pt_pw hs
  have a := pt_rdm hs hn h
  rw [pt_rdm hs hn' rfl] at a
  exact ((nI_eq (by omega) (by omega)).mp a).symm
theorem pt_half {s : Nat} (h1 : 1 ≤ s) : 2 ^ s = 2 ^ (s - 1) + 2 ^ (s - 1) := by
  obtain ⟨t, rfl⟩ : ∃ t, s = t + 1 := ⟨s - 1, by omega⟩
  rw [Nat.add_sub_cancel, Nat.pow_succ]
  omega
/-- the values of a field without sign -/
theorem pt_uns {v : Int32} {s : Nat} (hs : s ≤ 12) : (∃ n, n < 2 ^ s ∧ pt_rd 0 s n = v) ↔ (0 ≤ v ∧ v ≤ nI (2 ^ s - 1)) := by
  have hp := pt_pw hs
  have h0 := pt_pp s
  have e : ∀ n, pt_rd 0 s n = nI n := fun n => if_pos rfl
  constructor
  · rintro ⟨n, hn, rfl⟩
    rw [e]
    exact ⟨nI_pos' (by omega), nI_le (by omega) (by omega)⟩
  · rintro ⟨a, b⟩
    obtain ⟨j, hj, rfl⟩ := nI_of (x := v) (Int32.not_lt.mpr a)
    rw [nI_leI hj (by omega)] at b
    exact ⟨j, by omega, e j⟩
/-- the values of a field with sign -/
theorem pt_sig {z v : Int32} {s : Nat} (hz : ¬ z = 0) (h1 : 1 ≤ s) (hs : s ≤ 12) : (∃ n, n < 2 ^ s ∧ pt_rd z s n = v) ↔ (-nI (2 ^ (s - 1)) ≤ v ∧ v < nI (2 ^ (s - 1))) := by
  have hp := pt_pw hs
  have h0 := pt_pp (s - 1)
  have hh := pt_half h1
  have e : ∀ n, pt_rd z s n = if n < 2 ^ (s - 1) then nI n else nI n - nI (2 ^ s) := fun n => if_neg hz
  generalize hH : 2 ^ (s - 1) = H at *
  generalize 2 ^ s = P at *
  subst hh
  rw [Int32.le_iff_toInt_le, Int32.lt_iff_toInt_lt, sb_negT (by omega), nI_toInt (by omega)]
  constructor
  · rintro ⟨n, hn, rfl⟩
    rw [e]
    split
    · rw [nI_toInt (by omega)]
      omega
    · rw [pk_sub_toInt (by omega) (by omega)]
      omega
  · rintro ⟨a, b⟩
    by_cases hv : 0 ≤ v.toInt
    · refine ⟨v.toInt.toNat, by omega, ?_⟩
      rw [e, if_pos (by omega)]
      apply Int32.toInt_inj.mp
      rw [nI_toInt (by omega)]
      omega
    · refine ⟨(v.toInt + (H + H : Nat)).toNat, by omega, ?_⟩
      rw [e, if_neg (by omega)]
      apply Int32.toInt_inj.mp
      rw [pk_sub_toInt (by omega) (by omega)]
      omega
/-- one more bit of a sum of bits -/
theorem pt_bit (x b : Nat) : x % 2 ^ b + x / 2 ^ b % 2 * 2 ^ b = x % 2 ^ (b + 1) := by
  rw [Nat.mod_pow_succ, Nat.mul_comm]
/-- the last bit of a sum of bits, counted negative -/
theorem pt_last {z : Int32} {s x : Nat} (hz : ¬ z = 0) (h1 : 1 ≤ s) :
    nI (x % 2 ^ (s - 1)) + -nI (x / 2 ^ (s - 1) % 2 * 2 ^ (s - 1)) = pt_rd z s (x % 2 ^ s) := by
  have hh := pt_half h1
  have hb := pt_bit x (s - 1)
  rw [show s - 1 + 1 = s from by omega] at hb
  have hl : x % 2 ^ (s - 1) < 2 ^ (s - 1) := Nat.mod_lt _ (pt_pp _)
  have h2 : x / 2 ^ (s - 1) % 2 = 0 ∨ x / 2 ^ (s - 1) % 2 = 1 := by omega
  unfold pt_rd
  rw [if_neg hz, ← hb]
  rcases h2 with e | e
  · rw [e, Nat.zero_mul, Nat.add_zero, if_pos hl, nI_0, Int32.neg_zero, Int32.add_zero]
  · rw [e, Nat.one_mul, if_neg (by omega), hh, ← nI_add, ← nI_add]
    grind
end
section
/-! the small methods, and the loops that only read: each side against one pure function -/
def pt_dec (ma fi : Nat → Int32) (x : Int32) : Nat → Nat → Int32
  | 0, _ => -8
  | d + 1, p => if x &&& ma p = fi p then nI p else pt_dec ma fi x d (p + 1)
def pt_hl (ma fi : Nat → Int32) (c : Nat) : Nat → Nat → Int32 → Int32
  | 0, _, a => a
  | d + 1, x, a => if pt_dec ma fi (nI x) c 0 = -8 then pt_hl ma fi c d (x + 1) (a + 1) else pt_hl ma fi c d (x + 1) a
def pt_nh (ma fi : Nat → Int32) (c : Nat) : Nat → Nat → Int32
  | 0, _ => -8
  | d + 1, x => if pt_dec ma fi (nI x) c 0 = -8 then nI x else pt_nh ma fi c d (x + 1)
def pt_cv (M F : Int32) : Nat → Nat → Int32 → Int32
  | 0, _, a => a
  | d + 1, x, a => if nI x &&& M = F then pt_cv M F d (x + 1) (a + 1) else pt_cv M F d (x + 1) a
def pt_nw (M F : Int32) : Nat → Nat → Int32
  | 0, _ => -8
  | d + 1, x => if nI x &&& M = F then nI x else pt_nw M F d (x + 1)
theorem pt_10 : ¬ (1 : Int32) = 0 := by decide
theorem pt_neg {n : Nat} (h : n < 2 ^ 31) : ¬ nI n = -8 ∧ ¬ nI n = -1 := by
  have := nI_pos (n := n) h
  constructor <;> (intro e; rw [e] at this; exact this (by decide))
theorem pt_n8 : (-8 : Int32) < 0 := by decide
theorem pt_n1 : (-1 : Int32) < 0 := by decide
theorem pt_dec_or {ma fi : Nat → Int32} {x : Int32} : ∀ d p, (pt_dec ma fi x d p = -8 ∧ ∀ j, p ≤ j → j < p + d → ¬ x &&& ma j = fi j) ∨ ∃ j, p ≤ j ∧ j < p + d ∧ pt_dec ma fi x d p = nI j ∧ x &&& ma j = fi j := by
  intro d
  induction d with
  | zero => exact fun p => Or.inl ⟨rfl, fun j h1 h2 => by omega⟩
  | succ d ih =>
    intro p
    by_cases e : x &&& ma p = fi p
    · exact Or.inr ⟨p, Nat.le_refl p, by omega, by rw [pt_dec, if_pos e], e⟩
    · have u : pt_dec ma fi x (d + 1) p = pt_dec ma fi x d (p + 1) := by rw [pt_dec, if_neg e]
      rcases ih (p + 1) with ⟨h, h2⟩ | ⟨j, h1, h2, h3, h4⟩
      · refine Or.inl ⟨u.trans h, fun j a b => ?_⟩
        by_cases z : j = p
        · rw [z]; exact e
        · exact h2 j (by omega) (by omega)
      · exact Or.inr ⟨j, by omega, by omega, u.trans h3, h4⟩
section PTA
variable {c : Nat} {b w : Int32} {ma fi fc lo si sg : Nat → Int32} {post : Int32 → Prop}
theorem px_isW_t {x : Nat} (h : x < 4096) (hp : post 1) : wpX_isWord post  (nI x) := br_f (nI_pos (by omega)) (br_f (nI_ge (b := 4096) h (by decide)) hp)
theorem px_isW_f {x : Int32} (h : x < 0 ∨ nI 4096 ≤ x) (hp : post 0) : wpX_isWord post  x := br_c (fun _ => hp) (fun z => br_t (h.resolve_left z) hp)
theorem px_isP_t {p : Nat} (h : p < c) (hc : c ≤ 16) (hp : post 1) : wpX_isPattern post (nI c, b, w, ma, fi, fc, lo, si, sg) (nI p) := br_f (nI_pos (by omega)) (br_f (nI_ge h (by omega)) hp)
theorem px_isP_f {x : Int32} (h : x < 0 ∨ nI c ≤ x) (hp : post 0) : wpX_isPattern post (nI c, b, w, ma, fi, fc, lo, si, sg) x := br_c (fun _ => hp) (fun z => br_t (h.resolve_left z) hp)
theorem px_cov_t {p : Nat} {x : Int32} (h : p < 16) (e : x &&& ma p = fi p) (hp : post 1) : wpX_covers post (nI c, b, w, ma, fi, fc, lo, si, sg) (nI p) x := by
  have i : (nI p).toNatClampNeg = p := nI_clamp (by omega)
  have v : vp_in (nI p) 16 := vp_in_nI h (by decide)
  exact ⟨v, v, br_t (by rw [i]; exact e) hp⟩
theorem px_cov_f {p : Nat} {x : Int32} (h : p < 16) (e : ¬ x &&& ma p = fi p) (hp : post 0) : wpX_covers post (nI c, b, w, ma, fi, fc, lo, si, sg) (nI p) x := by
  have i : (nI p).toNatClampNeg = p := nI_clamp (by omega)
  have v : vp_in (nI p) 16 := vp_in_nI h (by decide)
  exact ⟨v, v, br_f (by rw [i]; exact e) hp⟩
theorem px_hasF_t {p k K : Nat} (h : p < 16) (e : fc p = nI K) (hK : K ≤ 3) (hk : k < K) (hp : post 1) : wpX_hasField post (nI c, b, w, ma, fi, fc, lo, si, sg) (nI p) (nI k) := by
  have i : (nI p).toNatClampNeg = p := nI_clamp (by omega)
  have v : vp_in (nI p) 16 := vp_in_nI h (by decide)
  exact br_f (nI_pos (by omega)) ⟨v, br_f (by rw [i, e]; exact nI_ge hk (by omega)) hp⟩
theorem px_hasF_f {p K : Nat} {x : Int32} (h : p < 16) (e : fc p = nI K) (hx : x < 0 ∨ nI K ≤ x) (hp : post 0) : wpX_hasField post (nI c, b, w, ma, fi, fc, lo, si, sg) (nI p) x := by
  have i : (nI p).toNatClampNeg = p := nI_clamp (by omega)
  have v : vp_in (nI p) 16 := vp_in_nI h (by decide)
  exact br_c (fun _ => hp) (fun z => ⟨v, br_t (by rw [i, e]; exact hx.resolve_left z) hp⟩)
theorem px_pc_l {x : Int32} (hc : c ≤ 16) : ∀ d p n, p + d = c → d < n → post (pt_dec ma fi x d p) → wX_patternCovering_2 post x (nI c) b w ma fi fc lo si sg n (nI p) := by
  intro d
  induction d with
  | zero =>
    intro p n hp hn h
    obtain ⟨n, rfl⟩ : ∃ k, n = k + 1 := ⟨n - 1, by omega⟩
    exact br_t (nI_le (by omega) (by omega)) h
  | succ d ih =>
    intro p n hp hn h
    obtain ⟨n, rfl⟩ : ∃ k, n = k + 1 := ⟨n - 1, by omega⟩
    refine br_f (nI_ge (by omega) (by omega)) ?_
    by_cases e : x &&& ma p = fi p
    · rw [pt_dec, if_pos e] at h
      exact px_cov_t (by omega) e (br_f pt_10 h)
    · rw [pt_dec, if_neg e] at h
      exact px_cov_f (by omega) e (br_t rfl (nm_r (nI_1 p) (ih (p + 1) n (by omega) (by omega) h)))
theorem py_isW_t {x : Nat} (h : x < 4096) (hp : post 1) : wpY_isWord post (nI c, b, w, ma, fi, fc, lo, si, sg) (nI x) := br_f (nI_pos (by omega)) (br_f (nI_ge (b := 4096) h (by decide)) hp)
theorem py_isW_f {x : Int32} (h : x < 0 ∨ nI 4096 ≤ x) (hp : post 0) : wpY_isWord post (nI c, b, w, ma, fi, fc, lo, si, sg) x := br_c (fun _ => hp) (fun z => br_t (h.resolve_left z) hp)
theorem py_isP_t {p : Nat} (h : p < c) (hc : c ≤ 16) (hp : post 1) : wpY_isPattern post (nI c, b, w, ma, fi, fc, lo, si, sg) (nI p) := br_f (nI_pos (by omega)) (br_f (nI_ge h (by omega)) hp)
theorem py_isP_f {x : Int32} (h : x < 0 ∨ nI c ≤ x) (hp : post 0) : wpY_isPattern post (nI c, b, w, ma, fi, fc, lo, si, sg) x := br_c (fun _ => hp) (fun z => br_t (h.resolve_left z) hp)
theorem py_cov_t {p : Nat} {x : Int32} (h : p < 16) (e : x &&& ma p = fi p) (hp : post 1) : wpY_covers post (nI c, b, w, ma, fi, fc, lo, si, sg) (nI p) x := by
  have i : (nI p).toNatClampNeg = p := nI_clamp (by omega)
  have v : vp_in (nI p) 16 := vp_in_nI h (by decide)
  exact ⟨v, v, br_t (by rw [i]; exact e) hp⟩
theorem py_cov_f {p : Nat} {x : Int32} (h : p < 16) (e : ¬ x &&& ma p = fi p) (hp : post 0) : wpY_covers post (nI c, b, w, ma, fi, fc, lo, si, sg) (nI p) x := by
  have i : (nI p).toNatClampNeg = p := nI_clamp (by omega)
  have v : vp_in (nI p) 16 := vp_in_nI h (by decide)
  exact ⟨v, v, br_f (by rw [i]; exact e) hp⟩
theorem py_hasF_t {p k K : Nat} (h : p < 16) (e : fc p = nI K) (hK : K ≤ 3) (hk : k < K) (hp : post 1) : wpY_isField post (nI c, b, w, ma, fi, fc, lo, si, sg) (nI p) (nI k) := by
  have i : (nI p).toNatClampNeg = p := nI_clamp (by omega)
  have v : vp_in (nI p) 16 := vp_in_nI h (by decide)
  exact br_f (nI_pos (by omega)) ⟨v, br_f (by rw [i, e]; exact nI_ge hk (by omega)) hp⟩
theorem py_hasF_f {p K : Nat} {x : Int32} (h : p < 16) (e : fc p = nI K) (hx : x < 0 ∨ nI K ≤ x) (hp : post 0) : wpY_isField post (nI c, b, w, ma, fi, fc, lo, si, sg) (nI p) x := by
  have i : (nI p).toNatClampNeg = p := nI_clamp (by omega)
  have v : vp_in (nI p) 16 := vp_in_nI h (by decide)
  exact br_c (fun _ => hp) (fun z => ⟨v, br_t (by rw [i, e]; exact hx.resolve_left z) hp⟩)
theorem py_pc_l {x : Int32} (hc : c ≤ 16) : ∀ d p n, p + d = c → d < n → post (pt_dec ma fi x d p) → wY_decode_13 post x (nI c) b w ma fi fc lo si sg n (nI p) := by
  intro d
  induction d with
  | zero =>
    intro p n hp hn h
    obtain ⟨n, rfl⟩ : ∃ k, n = k + 1 := ⟨n - 1, by omega⟩
    exact br_t (nI_le (by omega) (by omega)) h
  | succ d ih =>
    intro p n hp hn h
    obtain ⟨n, rfl⟩ : ∃ k, n = k + 1 := ⟨n - 1, by omega⟩
    refine br_f (nI_ge (by omega) (by omega)) ?_
    by_cases e : x &&& ma p = fi p
    · rw [pt_dec, if_pos e] at h
      exact py_cov_t (by omega) e (br_f pt_10 h)
    · rw [pt_dec, if_neg e] at h
      exact py_cov_f (by omega) e (br_t rfl (nm_r (nI_1 p) (ih (p + 1) n (by omega) (by omega) h)))
theorem px_pc {x : Int32} (hc : c ≤ 16) (h : post (pt_dec ma fi x c 0)) : wpX_patternCovering post (nI c, b, w, ma, fi, fc, lo, si, sg) x := ⟨c + 1, px_pc_l hc c 0 (c + 1) (by omega) (by omega) h⟩
theorem px_dec_t {x : Nat} (hc : c ≤ 16) (hx : x < 4096) (h : post (pt_dec ma fi (nI x) c 0)) : wpX_decode post (nI c, b, w, ma, fi, fc, lo, si, sg) (nI x) := by
  unfold wpX_decode
  dsimp only
  exact px_isW_t hx (br_f pt_10 (px_pc hc h))
theorem px_dec_f {x : Int32} (hx : x < 0 ∨ nI 4096 ≤ x) (h : post (-7)) : wpX_decode post (nI c, b, w, ma, fi, fc, lo, si, sg) x := by
  unfold wpX_decode
  dsimp only
  exact px_isW_f hx (br_t rfl h)
theorem py_pc {x : Nat} (hc : c ≤ 16) (hx : x < 4096) (h : post (pt_dec ma fi (nI x) c 0)) : wpY_decode post (nI c, b, w, ma, fi, fc, lo, si, sg) (nI x) := by
  unfold wpY_decode
  dsimp only
  exact py_isW_t hx (br_f pt_10 ⟨c + 1, py_pc_l hc c 0 (c + 1) (by omega) (by omega) h⟩)
theorem py_dec_f {x : Int32} (hx : x < 0 ∨ nI 4096 ≤ x) (h : post (-7)) : wpY_decode post (nI c, b, w, ma, fi, fc, lo, si, sg) x := by
  unfold wpY_decode
  dsimp only
  exact py_isW_f hx (br_t rfl h)
theorem px_hl_l (hc : c ≤ 16) : ∀ d x n a, x + d = 4096 → d < n → post (pt_hl ma fi c d x a) → wX_holes_4 post (nI c) b w ma fi fc lo si sg n a (nI x) := by
  intro d
  induction d with
  | zero =>
    intro x n a hp hn h
    obtain ⟨n, rfl⟩ : ∃ k, n = k + 1 := ⟨n - 1, by omega⟩
    exact br_t (nI_le (a := 4096) (by omega) (by omega)) h
  | succ d ih =>
    intro x n a hp hn h
    obtain ⟨n, rfl⟩ : ∃ k, n = k + 1 := ⟨n - 1, by omega⟩
    refine br_f (nI_ge (b := 4096) (by omega) (by decide)) (px_pc hc  ?_)
    by_cases e : pt_dec ma fi (nI x) c 0 = -8
    · rw [pt_hl, if_pos e] at h
      exact br_t e (nm_e (nm_r (nI_1 x) (ih (x + 1) n _ (by omega) (by omega) h)))
    · rw [pt_hl, if_neg e] at h
      exact br_f e (nm_r (nI_1 x) (ih (x + 1) n _ (by omega) (by omega) h))
theorem px_holes (hc : c ≤ 16) (h : post (pt_hl ma fi c 4096 0 0)) : wpX_holes post (nI c, b, w, ma, fi, fc, lo, si, sg) := ⟨4097, px_hl_l hc 4096 0 4097 0 (by omega) (by omega) h⟩
theorem px_nh_l (hc : c ≤ 16) : ∀ d x n, x + d = 4096 → d < n → post (pt_nh ma fi c d x) → wX_nextHole_12 post (nI c) b w ma fi fc lo si sg n (nI x) := by
  intro d
  induction d with
  | zero =>
    intro x n hp hn h
    obtain ⟨n, rfl⟩ : ∃ k, n = k + 1 := ⟨n - 1, by omega⟩
    exact br_t (nI_le (a := 4096) (by omega) (by omega)) h
  | succ d ih =>
    intro x n hp hn h
    obtain ⟨n, rfl⟩ : ∃ k, n = k + 1 := ⟨n - 1, by omega⟩
    refine br_f (nI_ge (b := 4096) (by omega) (by decide)) (px_pc hc  ?_)
    by_cases e : pt_dec ma fi (nI x) c 0 = -8
    · rw [pt_nh, if_pos e] at h
      exact br_t e h
    · rw [pt_nh, if_neg e] at h
      exact br_f e (nm_r (nI_1 x) (ih (x + 1) n (by omega) (by omega) h))
theorem px_nextHole_t {x : Nat} (hc : c ≤ 16) (hx : x < 4096) (h : post (pt_nh ma fi c (4096 - x) x)) : wpX_nextHole post (nI c, b, w, ma, fi, fc, lo, si, sg) (nI x) := by
  unfold wpX_nextHole
  dsimp only
  exact px_isW_t hx (br_f pt_10 ⟨4097, px_nh_l hc (4096 - x) x 4097 (by omega) (by omega) h⟩)
theorem px_nextHole_f {x : Int32} (hx : x < 0 ∨ nI 4096 ≤ x) (h : post (-7)) : wpX_nextHole post (nI c, b, w, ma, fi, fc, lo, si, sg) x := by
  unfold wpX_nextHole
  dsimp only
  exact px_isW_f hx (br_t rfl h)
theorem px_cv_l {p t : Nat} (hp16 : p < 16) (ht : t < 4096) : ∀ d x n a, t + 1 - x = d → x ≤ 4096 → d < n → post (pt_cv (ma p) (fi p) d x a) → wX_covered_34 post (nI p) (nI t) (nI c) b w ma fi fc lo si sg n a (nI x) := by
  intro d
  induction d with
  | zero =>
    intro x n a hp hx hn h
    obtain ⟨n, rfl⟩ : ∃ k, n = k + 1 := ⟨n - 1, by omega⟩
    exact br_t (nI_lt (by omega) (by omega)) h
  | succ d ih =>
    intro x n a hp hx hn h
    obtain ⟨n, rfl⟩ : ∃ k, n = k + 1 := ⟨n - 1, by omega⟩
    refine br_f (nI_nlt (by omega) (by omega)) ?_
    by_cases e : nI x &&& ma p = fi p
    · rw [pt_cv, if_pos e] at h
      exact px_cov_t hp16 e (br_f pt_10 (nm_e (nm_r (nI_1 x) (ih (x + 1) n _ (by omega) (by omega) (by omega) h))))
    · rw [pt_cv, if_neg e] at h
      exact px_cov_f hp16 e (br_t rfl (nm_r (nI_1 x) (ih (x + 1) n _ (by omega) (by omega) (by omega) h)))
theorem px_nw_l {p : Nat} (hp16 : p < 16) : ∀ d x n, x + d = 4096 → d < n → post (pt_nw (ma p) (fi p) d x) → wX_nextWord_23 post (nI p) (nI c) b w ma fi fc lo si sg n (nI x) := by
  intro d
  induction d with
  | zero =>
    intro x n hp hn h
    obtain ⟨n, rfl⟩ : ∃ k, n = k + 1 := ⟨n - 1, by omega⟩
    exact br_t (nI_le (a := 4096) (by omega) (by omega)) h
  | succ d ih =>
    intro x n hp hn h
    obtain ⟨n, rfl⟩ : ∃ k, n = k + 1 := ⟨n - 1, by omega⟩
    refine br_f (nI_ge (b := 4096) (by omega) (by decide)) ?_
    by_cases e : nI x &&& ma p = fi p
    · rw [pt_nw, if_pos e] at h
      exact px_cov_t hp16 e (br_f pt_10 h)
    · rw [pt_nw, if_neg e] at h
      exact px_cov_f hp16 e (br_t rfl (nm_r (nI_1 x) (ih (x + 1) n (by omega) (by omega) h)))
theorem px_nextWord_t {p x : Nat} (hc : c ≤ 16) (hp : p < c) (hx : x < 4096) (h : post (pt_nw (ma p) (fi p) (4096 - x) x)) : wpX_nextWord post (nI c, b, w, ma, fi, fc, lo, si, sg) (nI p) (nI x) := by
  unfold wpX_nextWord
  dsimp only
  exact px_isP_t hp hc (br_f pt_10 (px_isW_t hx (br_f pt_10 ⟨4097, px_nw_l (by omega) (4096 - x) x 4097 (by omega) (by omega) h⟩)))
theorem px_nextWord_p {y x : Int32} (hy : y < 0 ∨ nI c ≤ y) (h : post (-4)) : wpX_nextWord post (nI c, b, w, ma, fi, fc, lo, si, sg) y x := by
  unfold wpX_nextWord
  dsimp only
  exact px_isP_f hy (br_t rfl h)
theorem px_nextWord_f {p : Nat} {x : Int32} (hc : c ≤ 16) (hp : p < c) (hx : x < 0 ∨ nI 4096 ≤ x) (h : post (-7)) : wpX_nextWord post (nI c, b, w, ma, fi, fc, lo, si, sg) (nI p) x := by
  unfold wpX_nextWord
  dsimp only
  exact px_isP_t hp hc (br_f pt_10 (px_isW_f hx (br_t rfl h)))
theorem px_covered_p {y x t : Int32} (hy : y < 0 ∨ nI c ≤ y) (h : post (-4)) : wpX_covered post (nI c, b, w, ma, fi, fc, lo, si, sg) y x t := by
  unfold wpX_covered
  dsimp only
  exact px_isP_f hy (br_t rfl h)
theorem px_covered_f {p : Nat} {x t : Int32} (hc : c ≤ 16) (hp : p < c) (hx : x < 0 ∨ nI 4096 ≤ x) (h : post (-7)) : wpX_covered post (nI c, b, w, ma, fi, fc, lo, si, sg) (nI p) x t := by
  unfold wpX_covered
  dsimp only
  exact px_isP_t hp hc (br_f pt_10 (px_isW_f hx (br_t rfl h)))
theorem px_covered_g {p x : Nat} {t : Int32} (hc : c ≤ 16) (hp : p < c) (hx : x < 4096) (ht : t < 0 ∨ nI 4096 ≤ t) (h : post (-7)) : wpX_covered post (nI c, b, w, ma, fi, fc, lo, si, sg) (nI p) (nI x) t := by
  unfold wpX_covered
  dsimp only
  exact px_isP_t hp hc (br_f pt_10 (px_isW_t hx (br_f pt_10 (px_isW_f ht (br_t rfl h)))))
theorem py_hl_l (hc : c ≤ 16) : ∀ d x n a, x + d = 4096 → d < n → post (pt_hl ma fi c d x a) → wY_holes_4 post (nI c) b w ma fi fc lo si sg n a (nI x) := by
  intro d
  induction d with
  | zero =>
    intro x n a hp hn h
    obtain ⟨n, rfl⟩ : ∃ k, n = k + 1 := ⟨n - 1, by omega⟩
    exact br_t (nI_le (a := 4096) (by omega) (by omega)) h
  | succ d ih =>
    intro x n a hp hn h
    obtain ⟨n, rfl⟩ : ∃ k, n = k + 1 := ⟨n - 1, by omega⟩
    refine br_f (nI_ge (b := 4096) (by omega) (by decide)) (py_pc hc (by omega) ?_)
    by_cases e : pt_dec ma fi (nI x) c 0 = -8
    · rw [pt_hl, if_pos e] at h
      exact br_t e (nm_e (nm_r (nI_1 x) (ih (x + 1) n _ (by omega) (by omega) h)))
    · rw [pt_hl, if_neg e] at h
      exact br_f e (nm_r (nI_1 x) (ih (x + 1) n _ (by omega) (by omega) h))
theorem py_holes (hc : c ≤ 16) (h : post (pt_hl ma fi c 4096 0 0)) : wpY_holes post (nI c, b, w, ma, fi, fc, lo, si, sg) := ⟨4097, py_hl_l hc 4096 0 4097 0 (by omega) (by omega) h⟩
theorem py_nh_l (hc : c ≤ 16) : ∀ d x n, x + d = 4096 → d < n → post (pt_nh ma fi c d x) → wY_nextHole_13 post (nI c) b w ma fi fc lo si sg n (nI x) := by
  intro d
  induction d with
  | zero =>
    intro x n hp hn h
    obtain ⟨n, rfl⟩ : ∃ k, n = k + 1 := ⟨n - 1, by omega⟩
    exact br_t (nI_le (a := 4096) (by omega) (by omega)) h
  | succ d ih =>
    intro x n hp hn h
    obtain ⟨n, rfl⟩ : ∃ k, n = k + 1 := ⟨n - 1, by omega⟩
    refine br_f (nI_ge (b := 4096) (by omega) (by decide)) (py_pc hc (by omega) ?_)
    by_cases e : pt_dec ma fi (nI x) c 0 = -8
    · rw [pt_nh, if_pos e] at h
      exact br_t e h
    · rw [pt_nh, if_neg e] at h
      exact br_f e (nm_r (nI_1 x) (ih (x + 1) n (by omega) (by omega) h))
theorem py_nextHole_t {x : Nat} (hc : c ≤ 16) (hx : x < 4096) (h : post (pt_nh ma fi c (4096 - x) x)) : wpY_nextHole post (nI c, b, w, ma, fi, fc, lo, si, sg) (nI x) := by
  unfold wpY_nextHole
  dsimp only
  exact py_isW_t hx (br_f pt_10 ⟨4097, py_nh_l hc (4096 - x) x 4097 (by omega) (by omega) h⟩)
theorem py_nextHole_f {x : Int32} (hx : x < 0 ∨ nI 4096 ≤ x) (h : post (-7)) : wpY_nextHole post (nI c, b, w, ma, fi, fc, lo, si, sg) x := by
  unfold wpY_nextHole
  dsimp only
  exact py_isW_f hx (br_t rfl h)
theorem py_cv_l {p t : Nat} (hp16 : p < 16) (ht : t < 4096) : ∀ d x n a, t + 1 - x = d → x ≤ 4096 → d < n → post (pt_cv (ma p) (fi p) d x a) → wY_covered_43 post (nI p) (nI t) (nI c) b w ma fi fc lo si sg n a (nI x) := by
  intro d
  induction d with
  | zero =>
    intro x n a hp hx hn h
    obtain ⟨n, rfl⟩ : ∃ k, n = k + 1 := ⟨n - 1, by omega⟩
    exact br_t (nI_lt (by omega) (by omega)) h
  | succ d ih =>
    intro x n a hp hx hn h
    obtain ⟨n, rfl⟩ : ∃ k, n = k + 1 := ⟨n - 1, by omega⟩
    refine br_f (nI_nlt (by omega) (by omega)) ?_
    by_cases e : nI x &&& ma p = fi p
    · rw [pt_cv, if_pos e] at h
      exact py_cov_t hp16 e (br_f pt_10 (nm_e (nm_r (nI_1 x) (ih (x + 1) n _ (by omega) (by omega) (by omega) h))))
    · rw [pt_cv, if_neg e] at h
      exact py_cov_f hp16 e (br_t rfl (nm_r (nI_1 x) (ih (x + 1) n _ (by omega) (by omega) (by omega) h)))
theorem py_nw_l {p : Nat} (hp16 : p < 16) : ∀ d x n, x + d = 4096 → d < n → post (pt_nw (ma p) (fi p) d x) → wY_nextWord_24 post (nI p) (nI c) b w ma fi fc lo si sg n (nI x) := by
  intro d
  induction d with
  | zero =>
    intro x n hp hn h
    obtain ⟨n, rfl⟩ : ∃ k, n = k + 1 := ⟨n - 1, by omega⟩
    exact br_t (nI_le (a := 4096) (by omega) (by omega)) h
  | succ d ih =>
    intro x n hp hn h
    obtain ⟨n, rfl⟩ : ∃ k, n = k + 1 := ⟨n - 1, by omega⟩
    refine br_f (nI_ge (b := 4096) (by omega) (by decide)) ?_
    by_cases e : nI x &&& ma p = fi p
    · rw [pt_nw, if_pos e] at h
      exact py_cov_t hp16 e (br_f pt_10 h)
    · rw [pt_nw, if_neg e] at h
      exact py_cov_f hp16 e (br_t rfl (nm_r (nI_1 x) (ih (x + 1) n (by omega) (by omega) h)))
theorem py_nextWord_t {p x : Nat} (hc : c ≤ 16) (hp : p < c) (hx : x < 4096) (h : post (pt_nw (ma p) (fi p) (4096 - x) x)) : wpY_nextWord post (nI c, b, w, ma, fi, fc, lo, si, sg) (nI p) (nI x) := by
  unfold wpY_nextWord
  dsimp only
  exact py_isP_t hp hc (br_f pt_10 (py_isW_t hx (br_f pt_10 ⟨4097, py_nw_l (by omega) (4096 - x) x 4097 (by omega) (by omega) h⟩)))
theorem py_nextWord_p {y x : Int32} (hy : y < 0 ∨ nI c ≤ y) (h : post (-4)) : wpY_nextWord post (nI c, b, w, ma, fi, fc, lo, si, sg) y x := by
  unfold wpY_nextWord
  dsimp only
  exact py_isP_f hy (br_t rfl h)
theorem py_nextWord_f {p : Nat} {x : Int32} (hc : c ≤ 16) (hp : p < c) (hx : x < 0 ∨ nI 4096 ≤ x) (h : post (-7)) : wpY_nextWord post (nI c, b, w, ma, fi, fc, lo, si, sg) (nI p) x := by
  unfold wpY_nextWord
  dsimp only
  exact py_isP_t hp hc (br_f pt_10 (py_isW_f hx (br_t rfl h)))
theorem py_covered_p {y x t : Int32} (hy : y < 0 ∨ nI c ≤ y) (h : post (-4)) : wpY_covered post (nI c, b, w, ma, fi, fc, lo, si, sg) y x t := by
  unfold wpY_covered
  dsimp only
  exact py_isP_f hy (br_t rfl h)
theorem py_covered_f {p : Nat} {x t : Int32} (hc : c ≤ 16) (hp : p < c) (hx : x < 0 ∨ nI 4096 ≤ x) (h : post (-7)) : wpY_covered post (nI c, b, w, ma, fi, fc, lo, si, sg) (nI p) x t := by
  unfold wpY_covered
  dsimp only
  exact py_isP_t hp hc (br_f pt_10 (py_isW_f hx (br_t rfl h)))
theorem py_covered_g {p x : Nat} {t : Int32} (hc : c ≤ 16) (hp : p < c) (hx : x < 4096) (ht : t < 0 ∨ nI 4096 ≤ t) (h : post (-7)) : wpY_covered post (nI c, b, w, ma, fi, fc, lo, si, sg) (nI p) (nI x) t := by
  unfold wpY_covered
  dsimp only
  exact py_isP_t hp hc (br_f pt_10 (py_isW_t hx (br_f pt_10 (py_isW_f ht (br_t rfl h)))))
theorem px_covered_t {p x t : Nat} (hc : c ≤ 16) (hp : p < c) (hx : x < 4096) (ht : t < 4096) (h : post (pt_cv (ma p) (fi p) (t + 1 - x) x 0)) : wpX_covered post (nI c, b, w, ma, fi, fc, lo, si, sg) (nI p) (nI x) (nI t) := by
  unfold wpX_covered
  dsimp only
  exact px_isP_t hp hc (br_f pt_10 (px_isW_t hx (br_f pt_10 (px_isW_t ht (br_f pt_10 ⟨4098, px_cv_l (by omega) ht (t + 1 - x) x 4098 0 rfl (by omega) (by omega) h⟩)))))
theorem py_covered_t {p x t : Nat} (hc : c ≤ 16) (hp : p < c) (hx : x < 4096) (ht : t < 4096) (h : post (pt_cv (ma p) (fi p) (t + 1 - x) x 0)) : wpY_covered post (nI c, b, w, ma, fi, fc, lo, si, sg) (nI p) (nI x) (nI t) := by
  unfold wpY_covered
  dsimp only
  refine py_isP_t hp hc (br_f pt_10 (py_isW_t hx (br_f pt_10 (py_isW_t ht (br_f pt_10 (br_c (fun _ => ⟨4098, py_cv_l (by omega) ht (t + 1 - x) x 4098 0 rfl (by omega) (by omega) h⟩) (fun z => ?_)))))))
  rw [nI_leI (by omega) (by omega)] at z
  rw [show t + 1 - x = 0 from by omega] at h
  exact h
end PTA
end
section
/-! a field read and written: both sides against pt_rd -/
section PTB
variable {c : Nat} {b w : Int32} {ma fi fc lo si sg : Nat → Int32} {post : Int32 → Prop}
theorem px_ones {Z : Nat} (hZ : Z ≤ 12) (h : post (nI (2 ^ Z - 1))) : wpX_lowOnes post (nI Z) := by
  unfold wpX_lowOnes
  rw [pt_ones hZ]
  exact h
theorem px_slot {p k : Nat} (h : post (nI (p * 3 + k))) : wpX_slotOf post (nI p) (nI k) := by
  unfold wpX_slotOf
  rw [show nI p * 3 = nI (p * 3) from pk_mul p 3, nI_add]
  exact h
theorem pt_slot (p k : Nat) : nI p * 3 + nI k = nI (p * 3 + k) := by
  rw [show nI p * 3 = nI (p * 3) from pk_mul p 3, nI_add]
theorem pt_and1 (n : Nat) (h : n < 2 ^ 32) : nI n &&& 1 = nI (n % 2) := pk_andN h 1 (by decide)
theorem pt_pred {n : Nat} (h : 1 ≤ n) : nI n - 1 = nI (n - 1) := pk_sub (a := n) (b := 1) h
/-- the sum of a field's bits when k of Z are counted -/
def pt_sm (z : Int32) (Z X k : Nat) : Int32 := if k = Z then pt_rd z Z (X % 2 ^ Z) else nI (X % 2 ^ k)
theorem pt_sm0 {z : Int32} {Z X : Nat} (h : 1 ≤ Z) : pt_sm z Z X 0 = 0 := by
  unfold pt_sm
  rw [if_neg (by omega), Nat.pow_zero, Nat.mod_one]
  rfl
theorem pt_smk {z : Int32} {Z X k : Nat} (h : k < Z) : pt_sm z Z X k = nI (X % 2 ^ k) := if_neg (by omega)
theorem pt_smp {z : Int32} {Z X k : Nat} (h : k < Z) (hz : z = 0 ∨ k + 1 < Z) : nI (X % 2 ^ k) + nI (X / 2 ^ k % 2 * 2 ^ k) = pt_sm z Z X (k + 1) := by
  rw [nI_add, pt_bit]
  unfold pt_sm
  by_cases e : k + 1 = Z
  · rw [if_pos e, hz.resolve_right (by omega), e]
    exact (if_pos rfl).symm
  · rw [if_neg e]
theorem pt_smn {z : Int32} {Z X k : Nat} (h : k + 1 = Z) (hz : ¬ z = 0) : nI (X % 2 ^ k) + -nI (X / 2 ^ k % 2 * 2 ^ k) = pt_sm z Z X (k + 1) := by
  unfold pt_sm
  subst h
  rw [if_pos rfl]
  exact pt_last (s := k + 1) hz (by omega)
theorem py_rd_l {a x L Z : Nat} (ha : a < 48) (hx : x < 4096) (eL : lo a = nI L) (eZ : si a = nI Z) (hLZ : L + Z ≤ 12) :
    ∀ d k n, k + d = Z → d < n → post (pt_rd (sg a) Z (x / 2 ^ L % 2 ^ Z)) → wY_read_5 post (nI a) (nI x) (nI c) b w ma fi fc lo si sg n (pt_sm (sg a) Z (x / 2 ^ L) k) (nI k) := by
  have i : (nI a).toNatClampNeg = a := nI_clamp (by omega)
  have v : vp_in (nI a) 48 := vp_in_nI ha (by decide)
  intro d
  induction d with
  | zero =>
    intro k n hk hn h
    obtain ⟨n, rfl⟩ : ∃ j, n = j + 1 := ⟨n - 1, by omega⟩
    obtain rfl : k = Z := by omega
    refine ⟨v, br_t ?_ ?_⟩
    · rw [i, eZ]
      exact nI_le (Nat.le_refl _) (by omega)
    · rw [show pt_sm (sg a) k (x / 2 ^ L) k = pt_rd (sg a) k (x / 2 ^ L % 2 ^ k) from if_pos rfl]
      exact h
  | succ d ih =>
    intro k n hk hn h
    obtain ⟨n, rfl⟩ : ∃ j, n = j + 1 := ⟨n - 1, by omega⟩
    have ebit : (nI x >>> ((lo (nI a).toNatClampNeg + nI k) &&& 31)) &&& 1 = nI (x / 2 ^ L / 2 ^ k % 2) := by
      rw [i, eL, nI_add, pt_shr (by omega) (by omega), pt_and1 _ (Nat.lt_of_le_of_lt (Nat.div_le_self _ _) (by omega)), Nat.pow_add, Nat.div_div_eq_div_mul]
    have hb2 : x / 2 ^ L / 2 ^ k % 2 * 2 ^ k < 2 ^ 32 := by
      have h1 := pt_pw (s := k) (by omega)
      have h2 : x / 2 ^ L / 2 ^ k % 2 < 2 := Nat.mod_lt _ (by decide)
      have h3 : x / 2 ^ L / 2 ^ k % 2 * 2 ^ k ≤ 2 * 4096 := Nat.mul_le_mul (by omega) h1
      omega
    have eshl : nI (x / 2 ^ L / 2 ^ k % 2) <<< (nI k &&& 31) = nI (x / 2 ^ L / 2 ^ k % 2 * 2 ^ k) := pt_shl (by omega) hb2
    have next := ih (k + 1) n (by omega) (by omega) h
    rw [pt_smk (show k < Z by omega)]
    have plus : (sg a = 0 ∨ k + 1 < Z) → wY_read_57 post (wY_read_5 post (nI a) (nI x) (nI c) b w ma fi fc lo si sg n) (nI a) (nI x) (nI (x / 2 ^ L % 2 ^ k)) (nI k) (nI (x / 2 ^ L / 2 ^ k % 2)) (nI c) b w ma fi fc lo si sg := by
      intro hz
      exact br_t rfl (nm_r ((congrArg (nI (x / 2 ^ L % 2 ^ k) + ·) eshl).trans (pt_smp (by omega) hz)) (nm_r (nI_1 k) next))
    refine ⟨v, br_f ?_ ⟨v, nm_r ebit ⟨v, br_c (fun z => ?_) (fun z => ⟨v, br_c (fun y => ?_) (fun y => ?_)⟩)⟩⟩⟩
    · rw [i, eZ]
      exact nI_ge (by omega) (by omega)
    · rw [i] at z
      exact plus (Or.inl z)
    · rw [i] at z
      rw [i, eZ, pt_pred (by omega), nI_eq (by omega) (by omega)] at y
      exact br_f pt_10 (nm_r ((congrArg (fun t => nI (x / 2 ^ L % 2 ^ k) + -t) eshl).trans (pt_smn (by omega) z)) (nm_r (nI_1 k) next))
    · rw [i, eZ, pt_pred (by omega), nI_eq (by omega) (by omega)] at y
      exact plus (Or.inr (by omega))
theorem py_rd {a x L Z : Nat} (ha : a < 48) (hx : x < 4096) (eL : lo a = nI L) (eZ : si a = nI Z) (h1 : 1 ≤ Z) (hLZ : L + Z ≤ 12) (h : post (pt_rd (sg a) Z (x / 2 ^ L % 2 ^ Z))) : wpY_read post (nI c, b, w, ma, fi, fc, lo, si, sg) (nI a) (nI x) := by
  have k := py_rd_l (c := c) (b := b) (w := w) (ma := ma) (fi := fi) (fc := fc) ha hx eL eZ hLZ Z 0 (Z + 1) (by omega) (by omega) h
  rw [pt_sm0 h1] at k
  exact ⟨Z + 1, k⟩
theorem px_rd {a x L Z : Nat} (ha : a < 48) (hx : x < 4096) (eL : lo a = nI L) (eZ : si a = nI Z) (h1 : 1 ≤ Z) (hLZ : L + Z ≤ 12) (h : post (pt_rd (sg a) Z (x / 2 ^ L % 2 ^ Z))) : wpX_readField post (nI c, b, w, ma, fi, fc, lo, si, sg) (nI a) (nI x) := by
  have i : (nI a).toNatClampNeg = a := nI_clamp (by omega)
  have v : vp_in (nI a) 48 := vp_in_nI ha (by decide)
  have hp := pt_pw (s := Z) (by omega)
  have hh := pt_half h1
  have h0 := pt_pp (Z - 1)
  have hX : x / 2 ^ L < 4096 := Nat.lt_of_le_of_lt (Nat.div_le_self _ _) hx
  have hr : x / 2 ^ L % 2 ^ Z < 2 ^ Z := Nat.mod_lt _ (pt_pp Z)
  have eraw : (nI x >>> (lo (nI a).toNatClampNeg &&& 31)) &&& nI (2 ^ Z - 1) = nI (x / 2 ^ L % 2 ^ Z) := by
    rw [i, eL, pt_shr (by omega) (by omega), pk_andN (by omega) Z (pk_tn (by omega))]
  generalize x / 2 ^ L % 2 ^ Z = r at h hr eraw
  refine ⟨v, nm_r (by rw [i, eZ]) ⟨v, px_ones (by omega) (nm_r eraw ⟨v, br_c (fun z => ?_) (fun z => br_c (fun y => ?_) (fun y => ?_))⟩)⟩⟩
  · rw [i] at z
    unfold pt_rd at h
    rw [if_pos z] at h
    exact br_t rfl h
  · rw [i] at z
    rw [pt_pred h1, pt_shr (by omega) (by omega)] at y
    have y2 : r / 2 ^ (Z - 1) = 1 := (nI_eq (b := 1) (Nat.lt_of_le_of_lt (Nat.div_le_self _ _) (by omega)) (by decide)).mp y
    have y3 : ¬ r < 2 ^ (Z - 1) := fun q => by
      rw [Nat.div_eq_of_lt q] at y2
      omega
    unfold pt_rd at h
    rw [if_neg z, if_neg y3] at h
    refine br_f pt_10 ?_
    rw [pt_one (by omega)]
    exact h
  · rw [i] at z
    rw [pt_pred h1, pt_shr (by omega) (by omega)] at y
    have y2 : ¬ r / 2 ^ (Z - 1) = 1 := fun q => y (by rw [q]; rfl)
    have y3 : r < 2 ^ (Z - 1) := by
      apply Nat.lt_of_not_le
      intro q
      apply y2
      rw [Nat.div_eq_iff h0]
      omega
    unfold pt_rd at h
    rw [if_neg z, if_pos y3] at h
    exact br_t rfl h
theorem px_val {a Z : Nat} {x : Int32} (ha : a < 48) (eZ : si a = nI Z) (h1 : 1 ≤ Z) (hZ : Z ≤ 12) (ht : (∃ n, n < 2 ^ Z ∧ pt_rd (sg a) Z n = x) → post 1) (hf : ¬ (∃ n, n < 2 ^ Z ∧ pt_rd (sg a) Z n = x) → post 0) : wpX_isValueOfField post (nI c, b, w, ma, fi, fc, lo, si, sg) (nI a) x := by
  have i : (nI a).toNatClampNeg = a := nI_clamp (by omega)
  have v : vp_in (nI a) 48 := vp_in_nI ha (by decide)
  refine ⟨v, nm_r (by rw [i, eZ]) ⟨v, br_c (fun z => br_c (fun y => ?_) (fun y => px_ones hZ (br_c (fun t => ?_) (fun t => ?_)))) (fun z => nm_r (e' := nI (2 ^ (Z - 1))) ?_ (br_c (fun y => ?_) (fun y => br_c (fun t => ?_) (fun t => ?_))))⟩⟩
  · rw [i] at z
    refine hf fun q => ?_
    rw [z, pt_uns hZ] at q
    exact Int32.not_lt.mpr q.1 y
  · rw [i] at z
    refine hf fun q => ?_
    rw [z, pt_uns hZ] at q
    exact Int32.not_lt.mpr q.2 t
  · rw [i] at z
    refine ht ?_
    rw [z, pt_uns hZ]
    exact ⟨Int32.not_lt.mp y, Int32.not_lt.mp t⟩
  · rw [pt_pred h1, pt_one (by omega)]
  · rw [i] at z
    refine hf fun q => ?_
    rw [pt_sig z h1 hZ] at q
    exact Int32.not_lt.mpr q.1 y
  · rw [i] at z
    refine hf fun q => ?_
    rw [pt_sig z h1 hZ] at q
    exact Int32.not_lt.mpr t q.2
  · rw [i] at z
    refine ht ?_
    rw [pt_sig z h1 hZ]
    exact ⟨Int32.not_lt.mp y, Int32.not_le.mp t⟩
end PTB
section PTC
variable {c : Nat} {b w : Int32} {ma fi fc lo si sg : Nat → Int32} {post : Int32 → SY → Prop}
/-- the word with n at a field's place -/
def pt_wd (w : Int32) (L Z n : Nat) : Int32 := (w &&& (nI ((2 ^ Z - 1) * 2 ^ L) ^^^ (-1))) ||| nI (n * 2 ^ L)
theorem pt_fit {L Z n : Nat} (hLZ : L + Z ≤ 12) (hn : n < 2 ^ Z) : n * 2 ^ L < 4096 := by
  have h1 : 2 ^ (L + Z) ≤ 4096 := pt_pw hLZ
  have h2 : n * 2 ^ L < 2 ^ Z * 2 ^ L := Nat.mul_lt_mul_of_pos_right hn (pt_pp L)
  rw [← Nat.pow_add, Nat.add_comm Z L] at h2
  omega
theorem py_op_l {a L Z : Nat} {x : Int32} (ha : a < 48) (eL : lo a = nI L) (eZ : si a = nI Z) (h1 : 1 ≤ Z) (hLZ : L + Z ≤ 12)
    (hf : (∀ j, j < 2 ^ Z → ¬ pt_rd (sg a) Z j = x) → post (-6) (nI c, b, w, ma, fi, fc, lo, si, sg))
    (ht : ∀ j, j < 2 ^ Z → pt_rd (sg a) Z j = x → post (pt_wd w L Z j) (nI c, b, pt_wd w L Z j, ma, fi, fc, lo, si, sg)) :
    ∀ d k n, k + d = 2 ^ Z → d < n → (∀ j, j < k → ¬ pt_rd (sg a) Z j = x) → wY_operand_37 post x (nI a) (nI c) b w ma fi fc lo si sg n (nI k) := by
  have i : (nI a).toNatClampNeg = a := nI_clamp (by omega)
  have v : vp_in (nI a) 48 := vp_in_nI ha (by decide)
  have hp := pt_pw (s := Z) (by omega)
  have e1 : (1 : Int32) <<< (si (nI a).toNatClampNeg &&& 31) = nI (2 ^ Z) := by rw [i, eZ, pt_one (by omega)]
  intro d
  induction d with
  | zero =>
    intro k n hk hn h
    obtain ⟨n, rfl⟩ : ∃ j, n = j + 1 := ⟨n - 1, by omega⟩
    refine ⟨v, br_t ?_ (hf fun j hj => h j (by omega))⟩
    rw [e1]
    exact nI_le (by omega) (by omega)
  | succ d ih =>
    intro k n hk hn h
    obtain ⟨n, rfl⟩ : ∃ j, n = j + 1 := ⟨n - 1, by omega⟩
    have hk2 : k < 2 ^ Z := by omega
    have hfit := pt_fit hLZ hk2
    have es : nI k <<< (lo (nI a).toNatClampNeg &&& 31) = nI (k * 2 ^ L) := by rw [i, eL, pt_shl (by omega) (by omega)]
    refine ⟨v, br_f ?_ ⟨v, ?_⟩⟩
    · rw [e1]
      exact nI_ge hk2 (by omega)
    · rw [es]
      refine py_rd ha hfit eL eZ h1 hLZ ?_
      rw [Nat.mul_div_cancel _ (pt_pp L), Nat.mod_eq_of_lt hk2]
      refine br_c (fun e => ⟨v, v, nm_r (e' := nI ((2 ^ Z - 1) * 2 ^ L)) ?_ ⟨v, nm_r (e' := pt_wd w L Z k) ?_ (ht k hk2 e)⟩⟩) (fun e => nm_r (nI_1 k) (ih (k + 1) n (by omega) (by omega) fun j hj => ?_))
      · rw [i, eZ, pt_ones (by omega), eL, pt_shl (by omega)]
        have := pt_fit hLZ (n := 2 ^ Z - 1) (by omega)
        omega
      · rfl
      · by_cases q : j = k
        · rw [q]
          exact e
        · exact h j (by omega)
end PTC
end
section
/-! add and field: what each side does, by cases that both share -/
/-- every place of the table holds a mask and bits within it, and at most three fields within a word -/
def pt_Tab (ma fi : Nat → Int32) : Prop := ∀ p, p < 16 → ∃ M F, M < 4096 ∧ F < 4096 ∧ F &&& M = F ∧ ma p = nI M ∧ fi p = nI F
def pt_Fld (fc lo si : Nat → Int32) : Prop := ∀ p, p < 16 → ∃ K, K ≤ 3 ∧ fc p = nI K ∧ ∀ k, k < K → ∃ L Z, 1 ≤ Z ∧ L + Z ≤ 12 ∧ lo (p * 3 + k) = nI L ∧ si (p * 3 + k) = nI Z
def pt_ok (x y : Int32) (M : Nat) : Prop := ∃ L Z, x = nI L ∧ y = nI Z ∧ 1 ≤ Z ∧ L + Z ≤ 12 ∧ ∀ j, L ≤ j → j < L + Z → M / 2 ^ j % 2 = 0
theorem pt_ovl {ma fi : Nat → Int32} {c M B : Nat} (hc : c ≤ 16) (hB : B < 4096) (hs : B &&& M = B) (J : pt_Tab ma fi) :
    (∃ p, 0 ≤ p ∧ p < c ∧ (ma p &&& nI M) &&& (fi p ^^^ nI B) = 0) ↔ ∃ j, j < 4096 ∧ nI j &&& nI M = nI B ∧ ¬ pt_dec ma fi (nI j) c 0 < 0 := by
  constructor
  · rintro ⟨p, _, hp, e⟩
    obtain ⟨m, f, hm, hf, hfm, em, ef⟩ := J p (by omega)
    have hlt : m &&& M &&& (f ^^^ B) < 2 ^ 12 := Nat.and_lt_two_pow _ (Nat.xor_lt_two_pow (n := 12) hf hB)
    rw [em, ef, nx_and, nx_xor, nx_and, ← nI_0, nI_eq (by omega) (by omega), pt_ov hfm hs hf hB] at e
    obtain ⟨u, hu, h1, h2⟩ := e
    refine ⟨u, hu, by rw [nx_and, h1], ?_⟩
    rcases pt_dec_or (ma := ma) (fi := fi) (x := nI u) c 0 with ⟨_, q⟩ | ⟨j, _, hj, q, _⟩
    · exact absurd (by rw [em, ef, nx_and, h2]) (q p (by omega) (by omega))
    · rw [q]
      exact nI_pos (by omega)
  · rintro ⟨j, hj, e, hd⟩
    rcases pt_dec_or (ma := ma) (fi := fi) (x := nI j) c 0 with ⟨q, _⟩ | ⟨p, _, hp, _, q⟩
    · rw [q] at hd
      exact absurd pt_n8 hd
    · obtain ⟨m, f, hm, hf, hfm, em, ef⟩ := J p (by omega)
      have hlt : m &&& M &&& (f ^^^ B) < 2 ^ 12 := Nat.and_lt_two_pow _ (Nat.xor_lt_two_pow (n := 12) hf hB)
      have a1 : j &&& M ≤ j := Nat.and_le_left
      have a2 : j &&& m ≤ j := Nat.and_le_left
      rw [nx_and, nI_eq (by omega) (by omega)] at e
      rw [em, ef, nx_and, nI_eq (by omega) (by omega)] at q
      refine ⟨p, by omega, by omega, ?_⟩
      rw [em, ef, nx_and, nx_xor, nx_and, ← nI_0, nI_eq (by omega) (by omega), pt_ov hfm hs hf hB]
      exact ⟨j, hj, e, q⟩
section PTD
variable {c : Nat} {b w : Int32} {ma fi fc lo si sg : Nat → Int32}
theorem px_ov_l {post : Int32 → Prop} {x y : Int32} (hc : c ≤ 16) : ∀ d p n, p + d = c → d < n → ((∃ j, p ≤ j ∧ j < c ∧ (ma j &&& x) &&& (fi j ^^^ y) = 0) → post 1) → ((¬ ∃ j, p ≤ j ∧ j < c ∧ (ma j &&& x) &&& (fi j ^^^ y) = 0) → post 0) → wX_overlapsTable_2 post x y (nI c) b w ma fi fc lo si sg n (nI p) := by
  intro d
  induction d with
  | zero =>
    intro p n hp hn h1 h0
    obtain ⟨n, rfl⟩ : ∃ k, n = k + 1 := ⟨n - 1, by omega⟩
    exact br_t (nI_le (by omega) (by omega)) (h0 fun ⟨j, a, q, _⟩ => by omega)
  | succ d ih =>
    intro p n hp hn h1 h0
    obtain ⟨n, rfl⟩ : ∃ k, n = k + 1 := ⟨n - 1, by omega⟩
    have i : (nI p).toNatClampNeg = p := nI_clamp (by omega)
    have v : vp_in (nI p) 16 := vp_in_nI (by omega) (by decide)
    refine br_f (nI_ge (by omega) (by omega)) ⟨v, v, br_c (fun e => ?_) (fun e => nm_r (nI_1 p) (ih (p + 1) n (by omega) (by omega) (fun q => ?_) (fun q => h0 fun r => q ?_)))⟩
    · rw [i] at e
      exact h1 ⟨p, Nat.le_refl p, by omega, e⟩
    · obtain ⟨j, a, t, r⟩ := q
      exact h1 ⟨j, by omega, t, r⟩
    · rw [i] at e
      obtain ⟨j, a, t, r⟩ := r
      by_cases z : j = p
      · rw [z] at r
        exact absurd r e
      · exact ⟨j, by omega, t, r⟩
theorem px_ov {post : Int32 → Prop} {x y : Int32} (hc : c ≤ 16) (h1 : (∃ j, 0 ≤ j ∧ j < c ∧ (ma j &&& x) &&& (fi j ^^^ y) = 0) → post 1) (h0 : (¬ ∃ j, 0 ≤ j ∧ j < c ∧ (ma j &&& x) &&& (fi j ^^^ y) = 0) → post 0) : wpX_overlapsTable post (nI c, b, w, ma, fi, fc, lo, si, sg) x y := ⟨c + 1, px_ov_l hc c 0 (c + 1) (by omega) (by omega) h1 h0⟩
theorem py_add_l {post : Int32 → SY → Prop} {x y : Int32} (hc : c < 16)
    (h1 : (∃ j, j < 4096 ∧ nI j &&& x = y ∧ ¬ pt_dec ma fi (nI j) c 0 < 0) → post (-2) (nI c, b, w, ma, fi, fc, lo, si, sg))
    (h0 : (¬ ∃ j, j < 4096 ∧ nI j &&& x = y ∧ ¬ pt_dec ma fi (nI j) c 0 < 0) → post (nI c) (nI (c + 1), b, w, upd ma c x, upd fi c y, upd fc c 0, lo, si, sg)) :
    ∀ d k n, k + d = 4096 → d < n → (¬ ∃ j, j < k ∧ nI j &&& x = y ∧ ¬ pt_dec ma fi (nI j) c 0 < 0) → wY_add_40 post x y (nI c) b w ma fi fc lo si sg n (nI k) := by
  have i : (nI c).toNatClampNeg = c := nI_clamp (by omega)
  have v : vp_in (nI c) 16 := vp_in_nI (by omega) (by decide)
  intro d
  induction d with
  | zero =>
    intro k n hk hn h
    obtain ⟨n, rfl⟩ : ∃ j, n = j + 1 := ⟨n - 1, by omega⟩
    obtain rfl : k = 4096 := by omega
    refine br_t (nI_le (a := 4096) (by omega) (by omega)) ⟨v, nm_r (e' := upd ma c x) (by rw [i]) ⟨v, nm_r (e' := upd fi c y) (by rw [i]) ⟨v, nm_r (e' := upd fc c 0) (by rw [i]) (nm_r (nI_1 c) ?_)⟩⟩⟩
    rw [nI_pred]
    exact h0 h
  | succ d ih =>
    intro k n hk hn h
    obtain ⟨n, rfl⟩ : ∃ j, n = j + 1 := ⟨n - 1, by omega⟩
    refine br_f (nI_ge (b := 4096) (by omega) (by decide)) (br_c (fun e => py_pc (by omega) (by omega) (br_c (fun q => ?_) (fun q => ?_))) (fun e => ?_))
    · refine nm_r (nI_1 k) (ih (k + 1) n (by omega) (by omega) fun ⟨j, a, t, r⟩ => ?_)
      by_cases z : j = k
      · rw [z] at r
        exact r q
      · exact h ⟨j, by omega, t, r⟩
    · exact h1 ⟨k, by omega, e, q⟩
    · refine nm_r (nI_1 k) (ih (k + 1) n (by omega) (by omega) fun ⟨j, a, t, r⟩ => ?_)
      by_cases z : j = k
      · rw [z] at t
        exact e t
      · exact h ⟨j, by omega, t, r⟩
theorem px_add_m {post : Int32 → SX → Prop} {x y : Int32} (hx : x < 0 ∨ nI 4096 ≤ x) (h : post (-1) (nI c, b, w, ma, fi, fc, lo, si, sg)) : wpX_add post (nI c, b, w, ma, fi, fc, lo, si, sg) x y := by
  unfold wpX_add
  dsimp only
  exact px_isW_f hx (br_t rfl h)
theorem px_add_b {post : Int32 → SX → Prop} {M : Nat} {y : Int32} (hM : M < 4096) (hy : y < 0 ∨ nI 4096 ≤ y) (h : post (-1) (nI c, b, w, ma, fi, fc, lo, si, sg)) : wpX_add post (nI c, b, w, ma, fi, fc, lo, si, sg) (nI M) y := by
  unfold wpX_add
  dsimp only
  exact px_isW_t hM (br_f pt_10 (px_isW_f hy (br_t rfl h)))
theorem px_add_s {post : Int32 → SX → Prop} {M B : Nat} (hM : M < 4096) (hB : B < 4096) (e : ¬ nI B &&& (nI M ^^^ (-1)) = 0) (h : post (-1) (nI c, b, w, ma, fi, fc, lo, si, sg)) : wpX_add post (nI c, b, w, ma, fi, fc, lo, si, sg) (nI M) (nI B) := by
  unfold wpX_add
  dsimp only
  exact px_isW_t hM (br_f pt_10 (px_isW_t hB (br_f pt_10 (br_f e h))))
theorem px_add_u {post : Int32 → SX → Prop} {M B : Nat} (hM : M < 4096) (hB : B < 4096) (e : nI B &&& (nI M ^^^ (-1)) = 0) (hc : c = 16) (h : post (-3) (nI c, b, w, ma, fi, fc, lo, si, sg)) : wpX_add post (nI c, b, w, ma, fi, fc, lo, si, sg) (nI M) (nI B) := by
  unfold wpX_add
  dsimp only
  refine px_isW_t hM (br_f pt_10 (px_isW_t hB (br_f pt_10 (br_t e (br_f ?_ h)))))
  rw [hc]
  decide
theorem py_add_m {post : Int32 → SY → Prop} {x y : Int32} (hx : x < 0 ∨ nI 4096 ≤ x) (h : post (-1) (nI c, b, w, ma, fi, fc, lo, si, sg)) : wpY_add post (nI c, b, w, ma, fi, fc, lo, si, sg) x y := by
  unfold wpY_add
  dsimp only
  exact py_isW_f hx (br_t rfl h)
theorem py_add_b {post : Int32 → SY → Prop} {M : Nat} {y : Int32} (hM : M < 4096) (hy : y < 0 ∨ nI 4096 ≤ y) (h : post (-1) (nI c, b, w, ma, fi, fc, lo, si, sg)) : wpY_add post (nI c, b, w, ma, fi, fc, lo, si, sg) (nI M) y := by
  unfold wpY_add
  dsimp only
  exact py_isW_t hM (br_f pt_10 (py_isW_f hy (br_t rfl h)))
theorem py_add_s {post : Int32 → SY → Prop} {M B : Nat} (hM : M < 4096) (hB : B < 4096) (e : ¬ nI B &&& (nI M ^^^ (-1)) = 0) (h : post (-1) (nI c, b, w, ma, fi, fc, lo, si, sg)) : wpY_add post (nI c, b, w, ma, fi, fc, lo, si, sg) (nI M) (nI B) := by
  unfold wpY_add
  dsimp only
  exact py_isW_t hM (br_f pt_10 (py_isW_t hB (br_f pt_10 (br_f e h))))
theorem py_add_u {post : Int32 → SY → Prop} {M B : Nat} (hM : M < 4096) (hB : B < 4096) (e : nI B &&& (nI M ^^^ (-1)) = 0) (hc : c = 16) (h : post (-3) (nI c, b, w, ma, fi, fc, lo, si, sg)) : wpY_add post (nI c, b, w, ma, fi, fc, lo, si, sg) (nI M) (nI B) := by
  unfold wpY_add
  dsimp only
  refine py_isW_t hM (br_f pt_10 (py_isW_t hB (br_f pt_10 (br_t e (br_t ?_ h)))))
  rw [hc]
  decide
theorem px_add_k {post : Int32 → SX → Prop} {M B : Nat} (hM : M < 4096) (hB : B < 4096) (e : nI B &&& (nI M ^^^ (-1)) = 0) (hc : c < 16)
    (h1 : (∃ j, 0 ≤ j ∧ j < c ∧ (ma j &&& nI M) &&& (fi j ^^^ nI B) = 0) → post (-2) (nI c, b, w, ma, fi, fc, lo, si, sg))
    (h0 : (¬ ∃ j, 0 ≤ j ∧ j < c ∧ (ma j &&& nI M) &&& (fi j ^^^ nI B) = 0) → post (nI c) (nI (c + 1), b, w, upd ma c (nI M), upd fi c (nI B), upd fc c 0, lo, si, sg)) : wpX_add post (nI c, b, w, ma, fi, fc, lo, si, sg) (nI M) (nI B) := by
  have i : (nI c).toNatClampNeg = c := nI_clamp (by omega)
  have v : vp_in (nI c) 16 := vp_in_nI (by omega) (by decide)
  unfold wpX_add
  dsimp only
  exact px_isW_t hM (br_f pt_10 (px_isW_t hB (br_f pt_10 (br_t e (br_t (nI_lt (b := 16) hc (by decide)) (px_ov (by omega) (fun q => br_f pt_10 (h1 q)) (fun q => br_t rfl ⟨v, nm_r (e' := upd ma c (nI M)) (by rw [i]) ⟨v, nm_r (e' := upd fi c (nI B)) (by rw [i]) ⟨v, nm_r (e' := upd fc c 0) (by rw [i]) (nm_r (nI_1 c) (h0 q))⟩⟩⟩)))))))
theorem py_add_k {post : Int32 → SY → Prop} {M B : Nat} (hM : M < 4096) (hB : B < 4096) (e : nI B &&& (nI M ^^^ (-1)) = 0) (hc : c < 16)
    (h1 : (∃ j, j < 4096 ∧ nI j &&& nI M = nI B ∧ ¬ pt_dec ma fi (nI j) c 0 < 0) → post (-2) (nI c, b, w, ma, fi, fc, lo, si, sg))
    (h0 : (¬ ∃ j, j < 4096 ∧ nI j &&& nI M = nI B ∧ ¬ pt_dec ma fi (nI j) c 0 < 0) → post (nI c) (nI (c + 1), b, w, upd ma c (nI M), upd fi c (nI B), upd fc c 0, lo, si, sg)) : wpY_add post (nI c, b, w, ma, fi, fc, lo, si, sg) (nI M) (nI B) := by
  have n16 : ¬ nI c = 16 := fun z => by
    have := (nI_eq (b := 16) (by omega) (by decide)).mp z
    omega
  unfold wpY_add
  dsimp only
  exact py_isW_t hM (br_f pt_10 (py_isW_t hB (br_f pt_10 (br_t e (br_f n16 ⟨4097, py_add_l hc h1 h0 4096 0 4097 (by omega) (by omega) (fun ⟨j, a, _⟩ => by omega)⟩)))))
/-! field -/
theorem px_field_p {post : Int32 → SX → Prop} {t x y z : Int32} (ht : t < 0 ∨ nI c ≤ t) (h : post (-4) (nI c, b, w, ma, fi, fc, lo, si, sg)) : wpX_field post (nI c, b, w, ma, fi, fc, lo, si, sg) t x y z := by
  unfold wpX_field
  dsimp only
  exact px_isP_f ht (br_t rfl h)
theorem py_field_p {post : Int32 → SY → Prop} {t x y z : Int32} (ht : t < 0 ∨ nI c ≤ t) (h : post (-4) (nI c, b, w, ma, fi, fc, lo, si, sg)) : wpY_field post (nI c, b, w, ma, fi, fc, lo, si, sg) t x y z := by
  unfold wpY_field
  dsimp only
  exact py_isP_f ht (br_t rfl h)
theorem px_str {post : Int32 → Prop} {x y : Int32} (ht : ∀ L Z, x = nI L → y = nI Z → 1 ≤ Z → L + Z ≤ 12 → post 1) (hf : (¬ ∃ L Z, x = nI L ∧ y = nI Z ∧ 1 ≤ Z ∧ L + Z ≤ 12) → post 0) : wpX_isStretchOfBits post x y := by
  refine br_c (fun h => hf ?_) (fun h => br_c (fun h2 => hf ?_) (fun h2 => br_c (fun h3 => hf ?_) (fun h3 => br_c (fun h4 => hf ?_) (fun h4 => ?_))))
  · rintro ⟨L, Z, rfl, rfl, h5, h6⟩
    exact nI_pos (by omega) h
  · rintro ⟨L, Z, rfl, rfl, h5, h6⟩
    exact nI_ge (b := 12) (by omega) (by decide) h2
  · rintro ⟨L, Z, rfl, rfl, h5, h6⟩
    exact nI_nlt (b := 1) h5 (by omega) h3
  · rintro ⟨L, Z, rfl, rfl, h5, h6⟩
    rw [show (12 : Int32) - nI L = nI (12 - L) from pk_sub (a := 12) (by omega)] at h4
    exact nI_nlt (by omega) (by omega) h4
  · obtain ⟨L, hL, rfl⟩ := nI_of h
    have hL2 : L < 12 := by
      apply Nat.lt_of_not_le
      exact fun q => h2 (nI_le (a := 12) q hL)
    have hy : ¬ y < 0 := fun q => h3 (Int32.lt_trans q (by decide))
    obtain ⟨Z, hZ, rfl⟩ := nI_of hy
    have hZ1 : 1 ≤ Z := by
      apply Nat.le_of_not_lt
      exact fun q => h3 (nI_lt (b := 1) q (by decide))
    rw [show (12 : Int32) - nI L = nI (12 - L) from pk_sub (a := 12) (by omega), nI_ltI (by omega) hZ] at h4
    exact ht L Z rfl rfl hZ1 (by omega)
theorem px_field {post : Int32 → SX → Prop} {p M K : Nat} {x y z : Int32} (hc : c ≤ 16) (hp : p < c) (eM : ma p = nI M) (hM : M < 4096) (eK : fc p = nI K) (hK : K ≤ 3)
    (h5 : ¬ pt_ok x y M → post (-5) (nI c, b, w, ma, fi, fc, lo, si, sg)) (h3 : pt_ok x y M → K = 3 → post (-3) (nI c, b, w, ma, fi, fc, lo, si, sg))
    (hk : pt_ok x y M → K < 3 → post (nI K) (nI c, b, w, ma, fi, upd fc p (nI (K + 1)), upd lo (p * 3 + K) x, upd si (p * 3 + K) y, upd sg (p * 3 + K) (vp_nar .boolean z))) : wpX_field post (nI c, b, w, ma, fi, fc, lo, si, sg) (nI p) x y z := by
  have i : (nI p).toNatClampNeg = p := nI_clamp (by omega)
  have v : vp_in (nI p) 16 := vp_in_nI (by omega) (by decide)
  unfold wpX_field
  dsimp only
  refine px_isP_t hp hc (br_f pt_10 (px_str (fun L Z eL eZ hZ1 hLZ => br_f pt_10 ?_) (fun q => br_t rfl (h5 fun ⟨L, Z, a, a2, a3, a4, _⟩ => q ⟨L, Z, a, a2, a3, a4⟩))))
  subst eL
  subst eZ
  have hp1 := pt_pw (s := Z) (by omega)
  have hp0 := pt_pp Z
  have hfit := pt_fit hLZ (n := 2 ^ Z - 1) (by omega)
  have em : ma (nI p).toNatClampNeg &&& (nI (2 ^ Z - 1) <<< (nI L &&& 31)) = nI (M &&& ((2 ^ Z - 1) * 2 ^ L)) := by
    rw [i, eM, pt_shl (by omega) (by omega), nx_and]
  have hle : M &&& ((2 ^ Z - 1) * 2 ^ L) ≤ M := Nat.and_le_left
  have e0 : nI (M &&& ((2 ^ Z - 1) * 2 ^ L)) = 0 ↔ ∀ j, L ≤ j → j < L + Z → M / 2 ^ j % 2 = 0 := by
    rw [← nI_0, nI_eq (by omega) (by omega), pt_free]
  have hok : (∀ j, L ≤ j → j < L + Z → M / 2 ^ j % 2 = 0) → pt_ok (nI L) (nI Z) M := fun q => ⟨L, Z, rfl, rfl, hZ1, hLZ, q⟩
  have hno : (¬ ∀ j, L ≤ j → j < L + Z → M / 2 ^ j % 2 = 0) → ¬ pt_ok (nI L) (nI Z) M := by
    rintro q ⟨L', Z', a1, a2, a3, a4, a5⟩
    rw [nI_eq (by omega) (by omega)] at a1
    rw [nI_eq (by omega) (by omega)] at a2
    rw [← a1, ← a2] at a5
    exact q a5
  refine ⟨v, px_ones (by omega) ?_⟩
  rw [em, e0]
  refine br_c (fun q => ⟨v, nm_r (e' := nI K) (by rw [i, eK]) (br_c (fun k3 => ?_) (fun k3 => ?_))⟩) (fun q => h5 (hno q))
  · have hK3 : K < 3 := (nI_ltI (b := 3) (by omega) (by decide)).mp k3
    have i2 : (nI (p * 3 + K)).toNatClampNeg = p * 3 + K := nI_clamp (by omega)
    have v2 : vp_in (nI (p * 3 + K)) 48 := vp_in_nI (by omega) (by decide)
    exact px_slot ⟨v2, nm_r (e' := upd lo (p * 3 + K) (nI L)) (by rw [i2]) ⟨v2, nm_r (e' := upd si (p * 3 + K) (nI Z)) (by rw [i2]) ⟨v2, nm_r (e' := upd sg (p * 3 + K) (vp_nar .boolean z)) (by rw [i2]) ⟨v, nm_r (e' := upd fc p (nI (K + 1))) (by rw [i, nI_1]) (hk (hok q) hK3)⟩⟩⟩⟩
  · have hK3 : ¬ K < 3 := fun r => k3 (nI_lt (b := 3) r (by decide))
    exact h3 (hok q) (by omega)
theorem py_field_l {post : Int32 → SY → Prop} {p M K L Z : Nat} {z : Int32} (hp : p < 16) (eM : ma p = nI M) (hM : M < 4096) (eK : fc p = nI K) (hK : K ≤ 3) (hLZ : L + Z ≤ 12)
    (h5 : (¬ ∀ j, L ≤ j → j < L + Z → M / 2 ^ j % 2 = 0) → post (-5) (nI c, b, w, ma, fi, fc, lo, si, sg)) (h3 : (∀ j, L ≤ j → j < L + Z → M / 2 ^ j % 2 = 0) → K = 3 → post (-3) (nI c, b, w, ma, fi, fc, lo, si, sg))
    (hk : (∀ j, L ≤ j → j < L + Z → M / 2 ^ j % 2 = 0) → K < 3 → post (nI K) (nI c, b, w, ma, fi, upd fc p (nI (K + 1)), upd lo (p * 3 + K) (nI L), upd si (p * 3 + K) (nI Z), upd sg (p * 3 + K) (vp_nar .boolean z))) :
    ∀ d k n, k + d = L + Z → L ≤ k → d < n → (∀ j, L ≤ j → j < k → M / 2 ^ j % 2 = 0) → wY_field_46 post (nI p) (nI L) (nI Z) z (nI c) b w ma fi fc lo si sg n (nI k) := by
  have i : (nI p).toNatClampNeg = p := nI_clamp (by omega)
  have v : vp_in (nI p) 16 := vp_in_nI (by omega) (by decide)
  intro d
  induction d with
  | zero =>
    intro k n hkd hLk hn h
    obtain ⟨n, rfl⟩ : ∃ j, n = j + 1 := ⟨n - 1, by omega⟩
    obtain rfl : k = L + Z := by omega
    refine br_t (by rw [nI_add]; exact nI_le (Nat.le_refl _) (by omega)) ⟨v, br_c (fun e => ?_) (fun e => ?_)⟩
    · rw [i, eK] at e
      exact h3 h ((nI_eq (b := 3) (by omega) (by decide)).mp e)
    · rw [i, eK] at e
      have hK3 : K < 3 := by
        have : K ≠ 3 := fun r => e (by rw [r]; rfl)
        omega
      have i2 : (nI (p * 3 + K)).toNatClampNeg = p * 3 + K := nI_clamp (by omega)
      have v2 : vp_in (nI (p * 3 + K)) 48 := vp_in_nI (by omega) (by decide)
      refine ⟨v, nm_r (e' := nI (p * 3 + K)) (by rw [i, eK]; exact pt_slot p K) ⟨v2, nm_r (e' := upd lo (p * 3 + K) (nI L)) (by rw [i2]) ⟨v2, nm_r (e' := upd si (p * 3 + K) (nI Z)) (by rw [i2]) ⟨v2, nm_r (e' := upd sg (p * 3 + K) (vp_nar .boolean z)) (by rw [i2]) ⟨v, v, nm_r (e' := upd fc p (nI (K + 1))) (by rw [i, eK, nI_1]) ⟨v, ?_⟩⟩⟩⟩⟩⟩
      rw [i, pk_us, nI_pred]
      exact hk h hK3
  | succ d ih =>
    intro k n hkd hLk hn h
    obtain ⟨n, rfl⟩ : ∃ j, n = j + 1 := ⟨n - 1, by omega⟩
    have eb : (ma (nI p).toNatClampNeg >>> (nI k &&& 31)) &&& 1 = nI (M / 2 ^ k % 2) := by
      rw [i, eM, pt_shr (by omega) (by omega), pt_and1 _ (Nat.lt_of_le_of_lt (Nat.div_le_self _ _) (by omega))]
    have e0 : nI (M / 2 ^ k % 2) = 0 ↔ M / 2 ^ k % 2 = 0 := by rw [← nI_0, nI_eq (by omega) (by omega)]
    refine br_f (by rw [nI_add]; exact nI_ge (by omega) (by omega)) ⟨v, ?_⟩
    rw [eb, e0]
    refine br_c (fun e => nm_r (nI_1 k) (ih (k + 1) n (by omega) (by omega) (by omega) fun j a1 a2 => ?_)) (fun e => h5 fun q => e (q k hLk (by omega)))
    by_cases r : j = k
    · rw [r]
      exact e
    · exact h j a1 (by omega)
theorem py_field {post : Int32 → SY → Prop} {p M K : Nat} {x y z : Int32} (hc : c ≤ 16) (hp : p < c) (eM : ma p = nI M) (hM : M < 4096) (eK : fc p = nI K) (hK : K ≤ 3)
    (h5 : ¬ pt_ok x y M → post (-5) (nI c, b, w, ma, fi, fc, lo, si, sg)) (h3 : pt_ok x y M → K = 3 → post (-3) (nI c, b, w, ma, fi, fc, lo, si, sg))
    (hk : pt_ok x y M → K < 3 → post (nI K) (nI c, b, w, ma, fi, upd fc p (nI (K + 1)), upd lo (p * 3 + K) x, upd si (p * 3 + K) y, upd sg (p * 3 + K) (vp_nar .boolean z))) : wpY_field post (nI c, b, w, ma, fi, fc, lo, si, sg) (nI p) x y z := by
  unfold wpY_field
  dsimp only
  refine py_isP_t hp hc (br_f pt_10 (br_c (fun h => h5 ?_) (fun h => br_c (fun h2 => h5 ?_) (fun h2 => br_c (fun g3 => h5 ?_) (fun g3 => br_c (fun h4 => h5 ?_) (fun h4 => ?_))))))
  · rintro ⟨L, Z, rfl, rfl, a1, a2, _⟩
    exact nI_pos (by omega) h
  · rintro ⟨L, Z, rfl, rfl, a1, a2, _⟩
    have := (nI_ltI (a := 11) (by decide) (by omega)).mp h2
    omega
  · rintro ⟨L, Z, rfl, rfl, a1, a2, _⟩
    exact nI_nlt (b := 1) a1 (by omega) g3
  · rintro ⟨L, Z, rfl, rfl, a1, a2, _⟩
    have := (nI_ltI (a := 12) (by decide) (by omega)).mp h4
    omega
  · obtain ⟨L, hL, rfl⟩ := nI_of h
    have hL2 : L ≤ 11 := by
      apply Nat.le_of_not_lt
      exact fun q => h2 (nI_lt (a := 11) q hL)
    have hy : ¬ y < 0 := fun q => g3 (Int32.lt_trans q (by decide))
    obtain ⟨Z, hZ, rfl⟩ := nI_of hy
    have hZ1 : 1 ≤ Z := by
      apply Nat.le_of_not_lt
      exact fun q => g3 (nI_lt (b := 1) q (by decide))
    have hZ2 : Z ≤ 12 := by
      apply Nat.le_of_not_lt
      exact fun q => h4 (nI_lt (a := 12) q hZ)
    rw [nI_add]
    refine pk_le (L + Z) 12 (fun q => ?_) (fun q => h5 ?_)
    · have hno : (¬ ∀ j, L ≤ j → j < L + Z → M / 2 ^ j % 2 = 0) → ¬ pt_ok (nI L) (nI Z) M := by
        rintro q2 ⟨L', Z', a1, a2, a3, a4, a5⟩
        rw [nI_eq (by omega) (by omega)] at a1
        rw [nI_eq (by omega) (by omega)] at a2
        rw [← a1, ← a2] at a5
        exact q2 a5
      have hok : (∀ j, L ≤ j → j < L + Z → M / 2 ^ j % 2 = 0) → pt_ok (nI L) (nI Z) M := fun r => ⟨L, Z, rfl, rfl, hZ1, q, r⟩
      exact ⟨Z + 1, py_field_l (by omega) eM hM eK hK q (fun r => h5 (hno r)) (fun r r3 => h3 (hok r) r3) (fun r r3 => hk (hok r) r3) Z L (Z + 1) rfl (Nat.le_refl L) (by omega) (fun j a1 a2 => by omega)⟩
    · rintro ⟨L', Z', a1, a2, a3, a4, _⟩
      rw [nI_eq (by omega) (by omega)] at a1
      rw [nI_eq (by omega) (by omega)] at a2
      omega
end PTD
end
section
/-! begin, operand, value -/
section PTE
variable {c : Nat} {b w : Int32} {ma fi fc lo si sg : Nat → Int32}
theorem px_begin_f {post : Int32 → SX → Prop} {x : Int32} (hx : x < 0 ∨ nI c ≤ x) (h : post (-4) (nI c, b, w, ma, fi, fc, lo, si, sg)) : wpX_begin post (nI c, b, w, ma, fi, fc, lo, si, sg) x := by
  unfold wpX_begin
  dsimp only
  exact px_isP_f hx (br_t rfl h)
theorem px_begin_t {post : Int32 → SX → Prop} {j : Nat} (hc : c ≤ 16) (hj : j < c) (h : post (fi j) (nI c, nI j, fi j, ma, fi, fc, lo, si, sg)) : wpX_begin post (nI c, b, w, ma, fi, fc, lo, si, sg) (nI j) := by
  have i : (nI j).toNatClampNeg = j := nI_clamp (by omega)
  have v : vp_in (nI j) 16 := vp_in_nI (by omega) (by decide)
  unfold wpX_begin
  dsimp only
  exact px_isP_t hj hc (br_f pt_10 ⟨v, nm_r (e' := fi j) (by rw [i]) h⟩)
theorem py_begin_f {post : Int32 → SY → Prop} {x : Int32} (hx : x < 0 ∨ nI c ≤ x) (h : post (-4) (nI c, b, w, ma, fi, fc, lo, si, sg)) : wpY_begin post (nI c, b, w, ma, fi, fc, lo, si, sg) x := by
  unfold wpY_begin
  dsimp only
  exact py_isP_f hx (br_t rfl h)
theorem py_begin_t {post : Int32 → SY → Prop} {j : Nat} (hc : c ≤ 16) (hj : j < c) (h : post (fi j) (nI c, nI j, fi j, ma, fi, fc, lo, si, sg)) : wpY_begin post (nI c, b, w, ma, fi, fc, lo, si, sg) (nI j) := by
  have i : (nI j).toNatClampNeg = j := nI_clamp (by omega)
  have v : vp_in (nI j) 16 := vp_in_nI (by omega) (by decide)
  unfold wpY_begin
  dsimp only
  exact py_isP_t hj hc (br_f pt_10 ⟨v, nm_r (e' := fi j) (by rw [i]) h⟩)
theorem px_op_n {post : Int32 → SX → Prop} {x y : Int32} (hb : b < 0) (h : post (-4) (nI c, b, w, ma, fi, fc, lo, si, sg)) : wpX_operand post (nI c, b, w, ma, fi, fc, lo, si, sg) x y := by
  unfold wpX_operand
  dsimp only
  exact px_isP_f (Or.inl hb) (br_t rfl h)
theorem py_op_n {post : Int32 → SY → Prop} {x y : Int32} (hb : b < 0) (h : post (-4) (nI c, b, w, ma, fi, fc, lo, si, sg)) : wpY_operand post (nI c, b, w, ma, fi, fc, lo, si, sg) x y := by
  unfold wpY_operand
  dsimp only
  exact br_f (Int32.not_le.mpr hb) h
theorem px_op_f {post : Int32 → SX → Prop} {j K : Nat} {x y : Int32} (hc : c ≤ 16) (hj : j < c) (eK : fc j = nI K) (hx : x < 0 ∨ nI K ≤ x) (h : post (-5) (nI c, nI j, w, ma, fi, fc, lo, si, sg)) : wpX_operand post (nI c, nI j, w, ma, fi, fc, lo, si, sg) x y := by
  unfold wpX_operand
  dsimp only
  exact px_isP_t hj hc (br_f pt_10 (px_hasF_f (by omega) eK hx (br_t rfl h)))
theorem py_op_f {post : Int32 → SY → Prop} {j K : Nat} {x y : Int32} (hc : c ≤ 16) (hj : j < c) (eK : fc j = nI K) (hx : x < 0 ∨ nI K ≤ x) (h : post (-5) (nI c, nI j, w, ma, fi, fc, lo, si, sg)) : wpY_operand post (nI c, nI j, w, ma, fi, fc, lo, si, sg) x y := by
  unfold wpY_operand
  dsimp only
  exact br_t (nI_pos' (by omega)) (py_hasF_f (by omega) eK hx (br_t rfl h))
theorem px_op_k {post : Int32 → SX → Prop} {j K k L Z : Nat} {y : Int32} (hc : c ≤ 16) (hj : j < c) (eK : fc j = nI K) (hK : K ≤ 3) (hk : k < K) (eL : lo (j * 3 + k) = nI L) (eZ : si (j * 3 + k) = nI Z) (h1 : 1 ≤ Z) (hLZ : L + Z ≤ 12)
    (hf : (∀ n, n < 2 ^ Z → ¬ pt_rd (sg (j * 3 + k)) Z n = y) → post (-6) (nI c, nI j, w, ma, fi, fc, lo, si, sg))
    (ht : ∀ n, n < 2 ^ Z → pt_rd (sg (j * 3 + k)) Z n = y → post (pt_wd w L Z n) (nI c, nI j, pt_wd w L Z n, ma, fi, fc, lo, si, sg)) : wpX_operand post (nI c, nI j, w, ma, fi, fc, lo, si, sg) (nI k) y := by
  have ha : j * 3 + k < 48 := by omega
  have i2 : (nI (j * 3 + k)).toNatClampNeg = j * 3 + k := nI_clamp (by omega)
  have v2 : vp_in (nI (j * 3 + k)) 48 := vp_in_nI ha (by decide)
  have hp1 := pt_pw (s := Z) (by omega)
  have hp0 := pt_pp Z
  have hfit := pt_fit hLZ (n := 2 ^ Z - 1) (by omega)
  unfold wpX_operand
  dsimp only
  refine px_isP_t hj hc (br_f pt_10 (px_hasF_t (by omega) eK hK hk (br_f pt_10 (px_slot (px_val ha eZ h1 (by omega) (fun q => br_f pt_10 ⟨v2, nm_r (e' := nI L) (by rw [i2, eL]) ⟨v2, ?_⟩⟩) (fun q => br_t rfl (hf fun n hn e => q ⟨n, hn, e⟩)))))))
  obtain ⟨n, hn, e⟩ := q
  have hfn := pt_fit hLZ hn
  rw [i2, eZ]
  refine px_ones (by omega) (nm_r (e' := pt_wd w L Z n) ?_ (ht n hn e))
  rw [pt_rdm (by omega) hn e, pt_shl (by omega) (by omega), pt_shl (by omega) (by omega)]
  rfl
theorem py_op_k {post : Int32 → SY → Prop} {j K k L Z : Nat} {y : Int32} (hc : c ≤ 16) (hj : j < c) (eK : fc j = nI K) (hK : K ≤ 3) (hk : k < K) (eL : lo (j * 3 + k) = nI L) (eZ : si (j * 3 + k) = nI Z) (h1 : 1 ≤ Z) (hLZ : L + Z ≤ 12)
    (hf : (∀ n, n < 2 ^ Z → ¬ pt_rd (sg (j * 3 + k)) Z n = y) → post (-6) (nI c, nI j, w, ma, fi, fc, lo, si, sg))
    (ht : ∀ n, n < 2 ^ Z → pt_rd (sg (j * 3 + k)) Z n = y → post (pt_wd w L Z n) (nI c, nI j, pt_wd w L Z n, ma, fi, fc, lo, si, sg)) : wpY_operand post (nI c, nI j, w, ma, fi, fc, lo, si, sg) (nI k) y := by
  have ha : j * 3 + k < 48 := by omega
  unfold wpY_operand
  dsimp only
  exact br_t (nI_pos' (by omega)) (py_hasF_t (by omega) eK hK hk (br_f pt_10 (nm_r (pt_slot j k) ⟨2 ^ Z + 1, py_op_l ha eL eZ h1 hLZ hf ht (2 ^ Z) 0 (2 ^ Z + 1) (by omega) (by omega) (fun n hn => by omega)⟩)))
theorem px_va_w {post : Int32 → Prop} {x y : Int32} (hx : x < 0 ∨ nI 4096 ≤ x) (h : post 0) : wpX_value post (nI c, b, w, ma, fi, fc, lo, si, sg) x y := by
  unfold wpX_value
  dsimp only
  exact px_isW_f hx (br_t rfl h)
theorem py_va_w {post : Int32 → Prop} {x y : Int32} (hx : x < 0 ∨ nI 4096 ≤ x) (h : post 0) : wpY_value post (nI c, b, w, ma, fi, fc, lo, si, sg) x y := by
  unfold wpY_value
  dsimp only
  exact py_dec_f hx (br_t (by decide) h)
theorem px_va_n {post : Int32 → Prop} {x : Nat} {y : Int32} (hc : c ≤ 16) (hx : x < 4096) (e : pt_dec ma fi (nI x) c 0 = -8) (h : post 0) : wpX_value post (nI c, b, w, ma, fi, fc, lo, si, sg) (nI x) y := by
  unfold wpX_value
  dsimp only
  refine px_isW_t hx (br_f pt_10 (px_pc hc ?_))
  rw [e]
  exact px_isP_f (Or.inl pt_n8) (br_t rfl h)
theorem py_va_n {post : Int32 → Prop} {x : Nat} {y : Int32} (hc : c ≤ 16) (hx : x < 4096) (e : pt_dec ma fi (nI x) c 0 = -8) (h : post 0) : wpY_value post (nI c, b, w, ma, fi, fc, lo, si, sg) (nI x) y := by
  unfold wpY_value
  dsimp only
  refine py_pc hc hx ?_
  rw [e]
  exact br_t pt_n8 h
theorem px_va_f {post : Int32 → Prop} {x j K : Nat} {y : Int32} (hc : c ≤ 16) (hx : x < 4096) (hj : j < c) (e : pt_dec ma fi (nI x) c 0 = nI j) (eK : fc j = nI K) (hy : y < 0 ∨ nI K ≤ y) (h : post 0) : wpX_value post (nI c, b, w, ma, fi, fc, lo, si, sg) (nI x) y := by
  unfold wpX_value
  dsimp only
  refine px_isW_t hx (br_f pt_10 (px_pc hc ?_))
  rw [e]
  exact px_isP_t hj hc (br_f pt_10 (px_hasF_f (by omega) eK hy (br_t rfl h)))
theorem py_va_f {post : Int32 → Prop} {x j K : Nat} {y : Int32} (hc : c ≤ 16) (hx : x < 4096) (hj : j < c) (e : pt_dec ma fi (nI x) c 0 = nI j) (eK : fc j = nI K) (hy : y < 0 ∨ nI K ≤ y) (h : post 0) : wpY_value post (nI c, b, w, ma, fi, fc, lo, si, sg) (nI x) y := by
  unfold wpY_value
  dsimp only
  refine py_pc hc hx ?_
  rw [e]
  exact br_f (nI_pos (by omega)) (py_hasF_f (by omega) eK hy (br_t rfl h))
theorem px_va_k {post : Int32 → Prop} {x j K k L Z : Nat} (hc : c ≤ 16) (hx : x < 4096) (hj : j < c) (e : pt_dec ma fi (nI x) c 0 = nI j) (eK : fc j = nI K) (hK : K ≤ 3) (hk : k < K) (eL : lo (j * 3 + k) = nI L) (eZ : si (j * 3 + k) = nI Z) (h1 : 1 ≤ Z) (hLZ : L + Z ≤ 12) (h : post (pt_rd (sg (j * 3 + k)) Z (x / 2 ^ L % 2 ^ Z))) : wpX_value post (nI c, b, w, ma, fi, fc, lo, si, sg) (nI x) (nI k) := by
  unfold wpX_value
  dsimp only
  refine px_isW_t hx (br_f pt_10 (px_pc hc ?_))
  rw [e]
  exact px_isP_t hj hc (br_f pt_10 (px_hasF_t (by omega) eK hK hk (br_f pt_10 (px_slot (px_rd (by omega) hx eL eZ h1 hLZ h)))))
theorem py_va_k {post : Int32 → Prop} {x j K k L Z : Nat} (hc : c ≤ 16) (hx : x < 4096) (hj : j < c) (e : pt_dec ma fi (nI x) c 0 = nI j) (eK : fc j = nI K) (hK : K ≤ 3) (hk : k < K) (eL : lo (j * 3 + k) = nI L) (eZ : si (j * 3 + k) = nI Z) (h1 : 1 ≤ Z) (hLZ : L + Z ≤ 12) (h : post (pt_rd (sg (j * 3 + k)) Z (x / 2 ^ L % 2 ^ Z))) : wpY_value post (nI c, b, w, ma, fi, fc, lo, si, sg) (nI x) (nI k) := by
  unfold wpY_value
  dsimp only
  refine py_pc hc hx ?_
  rw [e]
  refine br_f (nI_pos (by omega)) (py_hasF_t (by omega) eK hK hk (br_f pt_10 ?_))
  rw [pt_slot]
  exact py_rd (by omega) hx eL eZ h1 hLZ h
end PTE
end
section
/-- what was begun: nothing (each side's own mark), or the same pattern of the table -/
def pt_Bg (c : Nat) (bX bY : Int32) : Prop := (bX = -8 ∧ bY = -1) ∨ ∃ j, j < c ∧ bX = nI j ∧ bY = nI j
/-- the two tables are the same; the begun pattern is, where there is one -/
def i_Rel (_ : Nat) (u : SX) (v : SY) : Prop := ∃ (c : Nat) (bX bY w : Int32) (ma fi fc lo si sg : Nat → Int32), u = (nI c, bX, w, ma, fi, fc, lo, si, sg) ∧ v = (nI c, bY, w, ma, fi, fc, lo, si, sg) ∧ c ≤ 16 ∧ pt_Bg c bX bY ∧ pt_Tab ma fi ∧ pt_Fld fc lo si
theorem pt_mk {k c : Nat} {bX bY w : Int32} {ma fi fc lo si sg : Nat → Int32} (hc : c ≤ 16) (hb : pt_Bg c bX bY) (ht : pt_Tab ma fi) (hf : pt_Fld fc lo si) : i_Rel k (nI c, bX, w, ma, fi, fc, lo, si, sg) (nI c, bY, w, ma, fi, fc, lo, si, sg) := ⟨c, bX, bY, w, ma, fi, fc, lo, si, sg, rfl, rfl, hc, hb, ht, hf⟩
theorem i_up {k : Nat} {u : SX} {v : SY} (h : i_Rel k u v) : i_Rel (k + 5) u v := h
theorem i_vc0 : wpX_init (fun u => wpY_init (fun v => i_Rel 0 u v)) := by
  exact pt_mk (k := 0) (c := 0) (by omega) (Or.inl ⟨rfl, rfl⟩) (fun p _ => ⟨0, 0, by decide, by decide, by decide, rfl, rfl⟩) (fun p _ => ⟨0, by decide, rfl, fun k hk => by omega⟩)
theorem pt_or3 {x : Int32} {n : Nat} (hn : n < 2 ^ 31) : (x < 0 ∨ nI n ≤ x) ∨ ∃ j, j < n ∧ x = nI j := by
  rcases pk_ix x hn with h | h | h
  · exact Or.inl (Or.inl h)
  · exact Or.inl (Or.inr h)
  · exact Or.inr h
theorem i_vc_add {k : Nat} {u : SX} {v : SY} (I : i_Rel k u v) (hk : k + 5 ≤ 2560) (v1 : Int32) (v2 : Int32) : wpX_add (fun r u' => wpY_add (fun r' v' => r' = r ∧ i_Rel (k + 5) u' v') v v1 v2) u v1 v2 := by
  obtain ⟨c, bX, bY, w, ma, fi, fc, lo, si, sg, rfl, rfl, hc, hb, ht, hf⟩ := I
  rcases pt_or3 (x := v1) (n := 4096) (by decide) with h | ⟨M, hM, rfl⟩
  · exact px_add_m h (py_add_m h ⟨rfl, pt_mk hc hb ht hf⟩)
  rcases pt_or3 (x := v2) (n := 4096) (by decide) with h | ⟨B, hB, rfl⟩
  · exact px_add_b hM h (py_add_b hM h ⟨rfl, pt_mk hc hb ht hf⟩)
  by_cases e : nI B &&& (nI M ^^^ (-1)) = 0
  · by_cases h16 : c = 16
    · exact px_add_u hM hB e h16 (py_add_u hM hB e h16 ⟨rfl, pt_mk hc hb ht hf⟩)
    · have hc16 : c < 16 := by omega
      have hs : B &&& M = B := pt_sub hB e
      have ov := pt_ovl hc hB hs ht
      refine px_add_k hM hB e hc16 (fun q => py_add_k hM hB e hc16 (fun _ => ⟨rfl, pt_mk hc hb ht hf⟩) (fun n => absurd (ov.mp q) n)) (fun q => py_add_k hM hB e hc16 (fun y => absurd (ov.mpr y) q) (fun _ => ⟨rfl, pt_mk (by omega) ?_ ?_ ?_⟩))
      · rcases hb with hb | ⟨j, hj, e1, e2⟩
        · exact Or.inl hb
        · exact Or.inr ⟨j, by omega, e1, e2⟩
      · intro p hp
        by_cases z : p = c
        · subst z
          exact ⟨M, B, hM, hB, hs, pk_us, pk_us⟩
        · rw [pk_un z, pk_un z]
          exact ht p hp
      · intro p hp
        by_cases z : p = c
        · subst z
          exact ⟨0, by decide, pk_us, fun k hk => by omega⟩
        · rw [pk_un z]
          exact hf p hp
  · exact px_add_s hM hB e (py_add_s hM hB e ⟨rfl, pt_mk hc hb ht hf⟩)
theorem i_vc_field {k : Nat} {u : SX} {v : SY} (I : i_Rel k u v) (hk : k + 5 ≤ 2560) (v1 : Int32) (v2 : Int32) (v3 : Int32) (v4 : Int32) : wpX_field (fun r u' => wpY_field (fun r' v' => r' = r ∧ i_Rel (k + 5) u' v') v v1 v2 v3 (lw_bz v4)) u v1 v2 v3 (lw_bz v4) := by
  obtain ⟨c, bX, bY, w, ma, fi, fc, lo, si, sg, rfl, rfl, hc, hb, ht, hf⟩ := I
  rcases pt_or3 (x := v1) (n := c) (by omega) with h | ⟨p, hp, rfl⟩
  · exact px_field_p h (py_field_p h ⟨rfl, pt_mk hc hb ht hf⟩)
  obtain ⟨M, F, hM, hF, hFM, eM, eF⟩ := ht p (by omega)
  obtain ⟨K, hK, eK, hKf⟩ := hf p (by omega)
  refine px_field hc hp eM hM eK hK
    (fun n => py_field hc hp eM hM eK hK (fun _ => ⟨rfl, pt_mk hc hb ht hf⟩) (fun o => absurd o n) (fun o => absurd o n))
    (fun o e3 => py_field hc hp eM hM eK hK (fun n => absurd o n) (fun _ _ => ⟨rfl, pt_mk hc hb ht hf⟩) (fun _ q => absurd e3 (by omega)))
    (fun o l3 => py_field hc hp eM hM eK hK (fun n => absurd o n) (fun _ q => absurd q (by omega)) (fun _ _ => ⟨rfl, pt_mk hc hb ht ?_⟩))
  obtain ⟨L, Z, rfl, rfl, hZ1, hLZ, _⟩ := o
  intro p' hp'
  by_cases z : p' = p
  · subst z
    refine ⟨K + 1, by omega, pk_us, fun k' hk' => ?_⟩
    by_cases y : k' = K
    · subst y
      exact ⟨L, Z, hZ1, hLZ, pk_us, pk_us⟩
    · rw [pk_un (by omega), pk_un (by omega)]
      exact hKf k' (by omega)
  · obtain ⟨K', hK', eK', hKf'⟩ := hf p' hp'
    refine ⟨K', hK', by rw [pk_un z]; exact eK', fun k' hk' => ?_⟩
    rw [pk_un (by omega), pk_un (by omega)]
    exact hKf' k' hk'
theorem i_vc_dropLast {k : Nat} {u : SX} {v : SY} (I : i_Rel k u v) (hk : k + 5 ≤ 2560) : wpX_dropLast (fun r u' => wpY_dropLast (fun r' v' => r' = r ∧ i_Rel (k + 5) u' v') v) u := by
  obtain ⟨c, bX, bY, w, ma, fi, fc, lo, si, sg, rfl, rfl, hc, hb, ht, hf⟩ := I
  by_cases h0 : c = 0
  · subst h0
    exact br_t rfl (br_t rfl ⟨rfl, pt_mk hc hb ht hf⟩)
  · have n0 : ¬ nI c = 0 := nI_ne0 (by omega) (by omega)
    have ep : nI c - 1 = nI (c - 1) := pt_pred (by omega)
    have hn := pt_neg (n := c - 1) (by omega)
    refine br_f n0 (nm_r ep ?_)
    rcases hb with ⟨rfl, rfl⟩ | ⟨j, hj, rfl, rfl⟩
    · exact br_f (fun z => hn.1 z.symm) (br_f n0 (nm_r ep (br_f (fun z => hn.2 z.symm) ⟨rfl, pt_mk (by omega) (Or.inl ⟨rfl, rfl⟩) ht hf⟩)))
    · by_cases z : j = c - 1
      · have z2 : nI j = nI (c - 1) := by rw [z]
        exact br_t z2 (br_f n0 (nm_r ep (br_t z2 ⟨rfl, pt_mk (by omega) (Or.inl ⟨rfl, rfl⟩) ht hf⟩)))
      · have z2 : ¬ nI j = nI (c - 1) := fun y => z ((nI_eq (by omega) (by omega)).mp y)
        exact br_f z2 (br_f n0 (nm_r ep (br_f z2 ⟨rfl, pt_mk (by omega) (Or.inr ⟨j, by omega, rfl, rfl⟩) ht hf⟩)))
theorem i_vc_begin {k : Nat} {u : SX} {v : SY} (I : i_Rel k u v) (hk : k + 5 ≤ 2560) (v1 : Int32) : wpX_begin (fun r u' => wpY_begin (fun r' v' => r' = r ∧ i_Rel (k + 5) u' v') v v1) u v1 := by
  obtain ⟨c, bX, bY, w, ma, fi, fc, lo, si, sg, rfl, rfl, hc, hb, ht, hf⟩ := I
  rcases pt_or3 (x := v1) (n := c) (by omega) with h | ⟨p, hp, rfl⟩
  · exact px_begin_f h (py_begin_f h ⟨rfl, pt_mk hc hb ht hf⟩)
  · exact px_begin_t hc hp (py_begin_t hc hp ⟨rfl, pt_mk hc (Or.inr ⟨p, hp, rfl, rfl⟩) ht hf⟩)
theorem i_vc_operand {k : Nat} {u : SX} {v : SY} (I : i_Rel k u v) (hk : k + 5 ≤ 2560) (v1 : Int32) (v2 : Int32) : wpX_operand (fun r u' => wpY_operand (fun r' v' => r' = r ∧ i_Rel (k + 5) u' v') v v1 v2) u v1 v2 := by
  obtain ⟨c, bX, bY, w, ma, fi, fc, lo, si, sg, rfl, rfl, hc, hb, ht, hf⟩ := I
  rcases hb with ⟨rfl, rfl⟩ | ⟨j, hj, rfl, rfl⟩
  · exact px_op_n pt_n8 (py_op_n pt_n1 ⟨rfl, pt_mk hc (Or.inl ⟨rfl, rfl⟩) ht hf⟩)
  have hb : pt_Bg c (nI j) (nI j) := Or.inr ⟨j, hj, rfl, rfl⟩
  obtain ⟨K, hK, eK, hKf⟩ := hf j (by omega)
  rcases pt_or3 (x := v1) (n := K) (by omega) with h | ⟨q, hq, rfl⟩
  · exact px_op_f hc hj eK h (py_op_f hc hj eK h ⟨rfl, pt_mk hc hb ht hf⟩)
  obtain ⟨L, Z, h1, hLZ, eL, eZ⟩ := hKf q hq
  refine px_op_k hc hj eK hK hq eL eZ h1 hLZ
    (fun n => py_op_k hc hj eK hK hq eL eZ h1 hLZ (fun _ => ⟨rfl, pt_mk hc hb ht hf⟩) (fun t ht2 e => absurd e (n t ht2)))
    (fun t ht2 e => py_op_k hc hj eK hK hq eL eZ h1 hLZ (fun n => absurd e (n t ht2)) (fun t' ht3 e' => ?_))
  obtain rfl : t' = t := pt_rdu (by omega) ht3 ht2 (e'.trans e.symm)
  exact ⟨rfl, pt_mk hc hb ht hf⟩
theorem i_vc_decode {k : Nat} {u : SX} {v : SY} (I : i_Rel k u v) (hk : k + 5 ≤ 2560) (v1 : Int32) : wpX_decode (fun r => wpY_decode (fun r' => r' = r ∧ i_Rel (k + 5) u v) v v1) u v1 := by
  obtain ⟨c, bX, bY, w, ma, fi, fc, lo, si, sg, rfl, rfl, hc, hb, ht, hf⟩ := I
  have R : i_Rel (k + 5) (nI c, bX, w, ma, fi, fc, lo, si, sg) (nI c, bY, w, ma, fi, fc, lo, si, sg) := pt_mk hc hb ht hf
  rcases pt_or3 (x := v1) (n := 4096) (by decide) with h | ⟨x, hx, rfl⟩
  · exact px_dec_f h (py_dec_f h ⟨rfl, R⟩)
  · exact px_dec_t hc hx (py_pc hc hx ⟨rfl, R⟩)
theorem i_vc_value {k : Nat} {u : SX} {v : SY} (I : i_Rel k u v) (hk : k + 5 ≤ 2560) (v1 : Int32) (v2 : Int32) : wpX_value (fun r => wpY_value (fun r' => r' = r ∧ i_Rel (k + 5) u v) v v1 v2) u v1 v2 := by
  obtain ⟨c, bX, bY, w, ma, fi, fc, lo, si, sg, rfl, rfl, hc, hb, ht, hf⟩ := I
  have R : i_Rel (k + 5) (nI c, bX, w, ma, fi, fc, lo, si, sg) (nI c, bY, w, ma, fi, fc, lo, si, sg) := pt_mk hc hb ht hf
  rcases pt_or3 (x := v1) (n := 4096) (by decide) with h | ⟨x, hx, rfl⟩
  · exact px_va_w h (py_va_w h ⟨rfl, R⟩)
  rcases pt_dec_or (ma := ma) (fi := fi) (x := nI x) c 0 with ⟨e, _⟩ | ⟨j, _, hj, e, _⟩
  · exact px_va_n hc hx e (py_va_n hc hx e ⟨rfl, R⟩)
  have hj2 : j < c := by omega
  obtain ⟨K, hK, eK, hKf⟩ := hf j (by omega)
  rcases pt_or3 (x := v2) (n := K) (by omega) with h | ⟨q, hq, rfl⟩
  · exact px_va_f hc hx hj2 e eK h (py_va_f hc hx hj2 e eK h ⟨rfl, R⟩)
  obtain ⟨L, Z, h1, hLZ, eL, eZ⟩ := hKf q hq
  exact px_va_k hc hx hj2 e eK hK hq eL eZ h1 hLZ (py_va_k hc hx hj2 e eK hK hq eL eZ h1 hLZ ⟨rfl, R⟩)
theorem i_vc_holes {k : Nat} {u : SX} {v : SY} (I : i_Rel k u v) (hk : k + 5 ≤ 2560) : wpX_holes (fun r => wpY_holes (fun r' => r' = r ∧ i_Rel (k + 5) u v) v) u := by
  obtain ⟨c, bX, bY, w, ma, fi, fc, lo, si, sg, rfl, rfl, hc, hb, ht, hf⟩ := I
  have R : i_Rel (k + 5) (nI c, bX, w, ma, fi, fc, lo, si, sg) (nI c, bY, w, ma, fi, fc, lo, si, sg) := pt_mk hc hb ht hf
  exact px_holes hc (py_holes hc ⟨rfl, R⟩)
theorem i_vc_nextHole {k : Nat} {u : SX} {v : SY} (I : i_Rel k u v) (hk : k + 5 ≤ 2560) (v1 : Int32) : wpX_nextHole (fun r => wpY_nextHole (fun r' => r' = r ∧ i_Rel (k + 5) u v) v v1) u v1 := by
  obtain ⟨c, bX, bY, w, ma, fi, fc, lo, si, sg, rfl, rfl, hc, hb, ht, hf⟩ := I
  have R : i_Rel (k + 5) (nI c, bX, w, ma, fi, fc, lo, si, sg) (nI c, bY, w, ma, fi, fc, lo, si, sg) := pt_mk hc hb ht hf
  rcases pt_or3 (x := v1) (n := 4096) (by decide) with h | ⟨x, hx, rfl⟩
  · exact px_nextHole_f h (py_nextHole_f h ⟨rfl, R⟩)
  · exact px_nextHole_t hc hx (py_nextHole_t hc hx ⟨rfl, R⟩)
theorem i_vc_covered {k : Nat} {u : SX} {v : SY} (I : i_Rel k u v) (hk : k + 5 ≤ 2560) (v1 : Int32) (v2 : Int32) (v3 : Int32) : wpX_covered (fun r => wpY_covered (fun r' => r' = r ∧ i_Rel (k + 5) u v) v v1 v2 v3) u v1 v2 v3 := by
  obtain ⟨c, bX, bY, w, ma, fi, fc, lo, si, sg, rfl, rfl, hc, hb, ht, hf⟩ := I
  have R : i_Rel (k + 5) (nI c, bX, w, ma, fi, fc, lo, si, sg) (nI c, bY, w, ma, fi, fc, lo, si, sg) := pt_mk hc hb ht hf
  rcases pt_or3 (x := v1) (n := c) (by omega) with h | ⟨p, hp, rfl⟩
  · exact px_covered_p h (py_covered_p h ⟨rfl, R⟩)
  rcases pt_or3 (x := v2) (n := 4096) (by decide) with h | ⟨x, hx, rfl⟩
  · exact px_covered_f hc hp h (py_covered_f hc hp h ⟨rfl, R⟩)
  rcases pt_or3 (x := v3) (n := 4096) (by decide) with h | ⟨t, h2, rfl⟩
  · exact px_covered_g hc hp hx h (py_covered_g hc hp hx h ⟨rfl, R⟩)
  · exact px_covered_t hc hp hx h2 (py_covered_t hc hp hx h2 ⟨rfl, R⟩)
theorem i_vc_nextWord {k : Nat} {u : SX} {v : SY} (I : i_Rel k u v) (hk : k + 5 ≤ 2560) (v1 : Int32) (v2 : Int32) : wpX_nextWord (fun r => wpY_nextWord (fun r' => r' = r ∧ i_Rel (k + 5) u v) v v1 v2) u v1 v2 := by
  obtain ⟨c, bX, bY, w, ma, fi, fc, lo, si, sg, rfl, rfl, hc, hb, ht, hf⟩ := I
  have R : i_Rel (k + 5) (nI c, bX, w, ma, fi, fc, lo, si, sg) (nI c, bY, w, ma, fi, fc, lo, si, sg) := pt_mk hc hb ht hf
  rcases pt_or3 (x := v1) (n := c) (by omega) with h | ⟨p, hp, rfl⟩
  · exact px_nextWord_p h (py_nextWord_p h ⟨rfl, R⟩)
  rcases pt_or3 (x := v2) (n := 4096) (by decide) with h | ⟨x, hx, rfl⟩
  · exact px_nextWord_f hc hp h (py_nextWord_f hc hp h ⟨rfl, R⟩)
  · exact px_nextWord_t hc hp hx (py_nextWord_t hc hp hx ⟨rfl, R⟩)
end
