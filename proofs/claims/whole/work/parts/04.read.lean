/-! a field read and written: both sides against pt_rd -/
section PTB
variable {c : Nat} {b w : Int32} {ma fi fc lo si sg : Nat → Int32} {post : Int32 → Prop}
theorem px_ones {Z : Nat} (hZ : Z ≤ 12) (h : post (nI (2 ^ Z - 1))) : wpX_lowOnes post (nI Z) := by
  unfold wpX_lowOnes
  rw [pt_ones hZ]
  exact h
theorem px_slot {p k : Nat} (h : post (nI (p * 3 + k))) : wpX_slotOf post (nI p) (nI k) := by
  unfold wpX_slotOf
  rw [show nI p * 3 = nI (p * 3) from pk_mul p 3, nI_add]
  exact h
theorem pt_slot (p k : Nat) : nI p * 3 + nI k = nI (p * 3 + k) := by
  rw [show nI p * 3 = nI (p * 3) from pk_mul p 3, nI_add]
theorem pt_and1 (n : Nat) (h : n < 2 ^ 32) : nI n &&& 1 = nI (n % 2) := pk_andN h 1 (by decide)
theorem pt_pred {n : Nat} (h : 1 ≤ n) : nI n - 1 = nI (n - 1) := pk_sub (a := n) (b := 1) h
/-- the sum of a field's bits when k of Z are counted -/
def pt_sm (z : Int32) (Z X k : Nat) : Int32 := if k = Z then pt_rd z Z (X % 2 ^ Z) else nI (X % 2 ^ k)
theorem pt_sm0 {z : Int32} {Z X : Nat} (h : 1 ≤ Z) : pt_sm z Z X 0 = 0 := by
  unfold pt_sm
  rw [if_neg (by omega), Nat.pow_zero, Nat.mod_one]
  rfl
theorem pt_smk {z : Int32} {Z X k : Nat} (h : k < Z) : pt_sm z Z X k = nI (X % 2 ^ k) := if_neg (by omega)
theorem pt_smp {z : Int32} {Z X k : Nat} (h : k < Z) (hz : z = 0 ∨ k + 1 < Z) : nI (X % 2 ^ k) + nI (X / 2 ^ k % 2 * 2 ^ k) = pt_sm z Z X (k + 1) := by
  rw [nI_add, pt_bit]
  unfold pt_sm
  by_cases e : k + 1 = Z
  · rw [if_pos e, hz.resolve_right (by omega), e]
    exact (if_pos rfl).symm
  · rw [if_neg e]
theorem pt_smn {z : Int32} {Z X k : Nat} (h : k + 1 = Z) (hz : ¬ z = 0) : nI (X % 2 ^ k) + -nI (X / 2 ^ k % 2 * 2 ^ k) = pt_sm z Z X (k + 1) := by
  unfold pt_sm
  subst h
  rw [if_pos rfl]
  exact pt_last (s := k + 1) hz (by omega)
theorem py_rd_l {a x L Z : Nat} (ha : a < 48) (hx : x < 4096) (eL : lo a = nI L) (eZ : si a = nI Z) (hLZ : L + Z ≤ 12) :
    ∀ d k n, k + d = Z → d < n → post (pt_rd (sg a) Z (x / 2 ^ L % 2 ^ Z)) → wY_read_5 post (nI a) (nI x) (nI c) b w ma fi fc lo si sg n (pt_sm (sg a) Z (x / 2 ^ L) k) (nI k) := by
  have i : (nI a).toNatClampNeg = a := nI_clamp (by omega)
  have v : vp_in (nI a) 48 := vp_in_nI ha (by decide)
  intro d
  induction d with
  | zero =>
    intro k n hk hn h
    obtain ⟨n, rfl⟩ : ∃ j, n = j + 1 := ⟨n - 1, by omega⟩
    obtain rfl : k = Z := by omega
    refine ⟨v, br_t ?_ ?_⟩
    · rw [i, eZ]
      exact nI_le (Nat.le_refl _) (by omega)
    · rw [show pt_sm (sg a) k (x / 2 ^ L) k = pt_rd (sg a) k (x / 2 ^ L % 2 ^ k) from if_pos rfl]
      exact h
  | succ d ih =>
    intro k n hk hn h
    obtain ⟨n, rfl⟩ : ∃ j, n = j + 1 := ⟨n - 1, by omega⟩
    have ebit : (nI x >>> ((lo (nI a).toNatClampNeg + nI k) &&& 31)) &&& 1 = nI (x / 2 ^ L / 2 ^ k % 2) := by
      rw [i, eL, nI_add, pt_shr (by omega) (by omega), pt_and1 _ (Nat.lt_of_le_of_lt (Nat.div_le_self _ _) (by omega)), Nat.pow_add, Nat.div_div_eq_div_mul]
    have hb2 : x / 2 ^ L / 2 ^ k % 2 * 2 ^ k < 2 ^ 32 := by
      have h1 := pt_pw (s := k) (by omega)
      have h2 : x / 2 ^ L / 2 ^ k % 2 < 2 := Nat.mod_lt _ (by decide)
      have h3 : x / 2 ^ L / 2 ^ k % 2 * 2 ^ k ≤ 2 * 4096 := Nat.mul_le_mul (by omega) h1
      omega
    have eshl : nI (x / 2 ^ L / 2 ^ k % 2) <<< (nI k &&& 31) = nI (x / 2 ^ L / 2 ^ k % 2 * 2 ^ k) := pt_shl (by omega) hb2
    have next := ih (k + 1) n (by omega) (by omega) h
    rw [pt_smk (show k < Z by omega)]
    have plus : (sg a = 0 ∨ k + 1 < Z) → wY_read_57 post (wY_read_5 post (nI a) (nI x) (nI c) b w ma fi fc lo si sg n) (nI a) (nI x) (nI (x / 2 ^ L % 2 ^ k)) (nI k) (nI (x / 2 ^ L / 2 ^ k % 2)) (nI c) b w ma fi fc lo si sg := by
      intro hz
      exact br_t rfl (nm_r ((congrArg (nI (x / 2 ^ L % 2 ^ k) + ·) eshl).trans (pt_smp (by omega) hz)) (nm_r (nI_1 k) next))
    refine ⟨v, br_f ?_ ⟨v, nm_r ebit ⟨v, br_c (fun z => ?_) (fun z => ⟨v, br_c (fun y => ?_) (fun y => ?_)⟩)⟩⟩⟩
    · rw [i, eZ]
      exact nI_ge (by omega) (by omega)
    · rw [i] at z
      exact plus (Or.inl z)
    · rw [i] at z
      rw [i, eZ, pt_pred (by omega), nI_eq (by omega) (by omega)] at y
      exact br_f pt_10 (nm_r ((congrArg (fun t => nI (x / 2 ^ L % 2 ^ k) + -t) eshl).trans (pt_smn (by omega) z)) (nm_r (nI_1 k) next))
    · rw [i, eZ, pt_pred (by omega), nI_eq (by omega) (by omega)] at y
      exact plus (Or.inr (by omega))
theorem py_rd {a x L Z : Nat} (ha : a < 48) (hx : x < 4096) (eL : lo a = nI L) (eZ : si a = nI Z) (h1 : 1 ≤ Z) (hLZ : L + Z ≤ 12) (h : post (pt_rd (sg a) Z (x / 2 ^ L % 2 ^ Z))) : wpY_read post (nI c, b, w, ma, fi, fc, lo, si, sg) (nI a) (nI x) := by
  have k := py_rd_l (c := c) (b := b) (w := w) (ma := ma) (fi := fi) (fc := fc) ha hx eL eZ hLZ Z 0 (Z + 1) (by omega) (by omega) h
  rw [pt_sm0 h1] at k
  exact ⟨Z + 1, k⟩
theorem px_rd {a x L Z : Nat} (ha : a < 48) (hx : x < 4096) (eL : lo a = nI L) (eZ : si a = nI Z) (h1 : 1 ≤ Z) (hLZ : L + Z ≤ 12) (h : post (pt_rd (sg a) Z (x / 2 ^ L % 2 ^ Z))) : wpX_readField post (nI c, b, w, ma, fi, fc, lo, si, sg) (nI a) (nI x) := by
  have i : (nI a).toNatClampNeg = a := nI_clamp (by omega)
  have v : vp_in (nI a) 48 := vp_in_nI ha (by decide)
  have hp := pt_pw (s := Z) (by omega)
  have hh := pt_half h1
  have h0 := pt_pp (Z - 1)
  have hX : x / 2 ^ L < 4096 := Nat.lt_of_le_of_lt (Nat.div_le_self _ _) hx
  have hr : x / 2 ^ L % 2 ^ Z < 2 ^ Z := Nat.mod_lt _ (pt_pp Z)
  have eraw : (nI x >>> (lo (nI a).toNatClampNeg &&& 31)) &&& nI (2 ^ Z - 1) = nI (x / 2 ^ L % 2 ^ Z) := by
    rw [i, eL, pt_shr (by omega) (by omega), pk_andN (by omega) Z (pk_tn (by omega))]
  generalize x / 2 ^ L % 2 ^ Z = r at h hr eraw
  refine ⟨v, nm_r (by rw [i, eZ]) ⟨v, px_ones (by omega) (nm_r eraw ⟨v, br_c (fun z => ?_) (fun z => br_c (fun y => ?_) (fun y => ?_))⟩)⟩⟩
  · rw [i] at z
    unfold pt_rd at h
    rw [if_pos z] at h
    exact br_t rfl h
  · rw [i] at z
    rw [pt_pred h1, pt_shr (by omega) (by omega)] at y
    have y2 : r / 2 ^ (Z - 1) = 1 := (nI_eq (b := 1) (Nat.lt_of_le_of_lt (Nat.div_le_self _ _) (by omega)) (by decide)).mp y
    have y3 : ¬ r < 2 ^ (Z - 1) := fun q => by
      rw [Nat.div_eq_of_lt q] at y2
      omega
    unfold pt_rd at h
    rw [if_neg z, if_neg y3] at h
    refine br_f pt_10 ?_
    rw [pt_one (by omega)]
    exact h
  · rw [i] at z
    rw [pt_pred h1, pt_shr (by omega) (by omega)] at y
    have y2 : ¬ r / 2 ^ (Z - 1) = 1 := fun q => y (by rw [q]; rfl)
    have y3 : r < 2 ^ (Z - 1) := by
      apply Nat.lt_of_not_le
      intro q
      apply y2
      rw [Nat.div_eq_iff h0]
      omega
    unfold pt_rd at h
    rw [if_neg z, if_pos y3] at h
    exact br_t rfl h
theorem px_val {a Z : Nat} {x : Int32} (ha : a < 48) (eZ : si a = nI Z) (h1 : 1 ≤ Z) (hZ : Z ≤ 12) (ht : (∃ n, n < 2 ^ Z ∧ pt_rd (sg a) Z n = x) → post 1) (hf : ¬ (∃ n, n < 2 ^ Z ∧ pt_rd (sg a) Z n = x) → post 0) : wpX_isValueOfField post (nI c, b, w, ma, fi, fc, lo, si, sg) (nI a) x := by
  have i : (nI a).toNatClampNeg = a := nI_clamp (by omega)
  have v : vp_in (nI a) 48 := vp_in_nI ha (by decide)
  refine ⟨v, nm_r (by rw [i, eZ]) ⟨v, br_c (fun z => br_c (fun y => ?_) (fun y => px_ones hZ (br_c (fun t => ?_) (fun t => ?_)))) (fun z => nm_r (e' := nI (2 ^ (Z - 1))) ?_ (br_c (fun y => ?_) (fun y => br_c (fun t => ?_) (fun t => ?_))))⟩⟩
  · rw [i] at z
    refine hf fun q => ?_
    rw [z, pt_uns hZ] at q
    exact Int32.not_lt.mpr q.1 y
  · rw [i] at z
    refine hf fun q => ?_
    rw [z, pt_uns hZ] at q
    exact Int32.not_lt.mpr q.2 t
  · rw [i] at z
    refine ht ?_
    rw [z, pt_uns hZ]
    exact ⟨Int32.not_lt.mp y, Int32.not_lt.mp t⟩
  · rw [pt_pred h1, pt_one (by omega)]
  · rw [i] at z
    refine hf fun q => ?_
    rw [pt_sig z h1 hZ] at q
    exact Int32.not_lt.mpr q.1 y
  · rw [i] at z
    refine hf fun q => ?_
    rw [pt_sig z h1 hZ] at q
    exact Int32.not_lt.mpr t q.2
  · rw [i] at z
    refine ht ?_
    rw [pt_sig z h1 hZ]
    exact ⟨Int32.not_lt.mp y, Int32.not_le.mp t⟩
end PTB
section PTC
variable {c : Nat} {b w : Int32} {ma fi fc lo si sg : Nat → Int32} {post : Int32 → SY → Prop}
/-- the word with n at a field's place -/
def pt_wd (w : Int32) (L Z n : Nat) : Int32 := (w &&& (nI ((2 ^ Z - 1) * 2 ^ L) ^^^ (-1))) ||| nI (n * 2 ^ L)
theorem pt_fit {L Z n : Nat} (hLZ : L + Z ≤ 12) (hn : n < 2 ^ Z) : n * 2 ^ L < 4096 := by
  have h1 : 2 ^ (L + Z) ≤ 4096 := pt_pw hLZ
  have h2 : n * 2 ^ L < 2 ^ Z * 2 ^ L := Nat.mul_lt_mul_of_pos_right hn (pt_pp L)
  rw [← Nat.pow_add, Nat.add_comm Z L] at h2
  omega
theorem py_op_l {a L Z : Nat} {x : Int32} (ha : a < 48) (eL : lo a = nI L) (eZ : si a = nI Z) (h1 : 1 ≤ Z) (hLZ : L + Z ≤ 12)
    (hf : (∀ j, j < 2 ^ Z → ¬ pt_rd (sg a) Z j = x) → post (-6) (nI c, b, w, ma, fi, fc, lo, si, sg))
    (ht : ∀ j, j < 2 ^ Z → pt_rd (sg a) Z j = x → post (pt_wd w L Z j) (nI c, b, pt_wd w L Z j, ma, fi, fc, lo, si, sg)) :
    ∀ d k n, k + d = 2 ^ Z → d < n → (∀ j, j < k → ¬ pt_rd (sg a) Z j = x) → wY_operand_37 post x (nI a) (nI c) b w ma fi fc lo si sg n (nI k) := by
  have i : (nI a).toNatClampNeg = a := nI_clamp (by omega)
  have v : vp_in (nI a) 48 := vp_in_nI ha (by decide)
  have hp := pt_pw (s := Z) (by omega)
  have e1 : (1 : Int32) <<< (si (nI a).toNatClampNeg &&& 31) = nI (2 ^ Z) := by rw [i, eZ, pt_one (by omega)]
  intro d
  induction d with
  | zero =>
    intro k n hk hn h
    obtain ⟨n, rfl⟩ : ∃ j, n = j + 1 := ⟨n - 1, by omega⟩
    refine ⟨v, br_t ?_ (hf fun j hj => h j (by omega))⟩
    rw [e1]
    exact nI_le (by omega) (by omega)
  | succ d ih =>
    intro k n hk hn h
    obtain ⟨n, rfl⟩ : ∃ j, n = j + 1 := ⟨n - 1, by omega⟩
    have hk2 : k < 2 ^ Z := by omega
    have hfit := pt_fit hLZ hk2
    have es : nI k <<< (lo (nI a).toNatClampNeg &&& 31) = nI (k * 2 ^ L) := by rw [i, eL, pt_shl (by omega) (by omega)]
    refine ⟨v, br_f ?_ ⟨v, ?_⟩⟩
    · rw [e1]
      exact nI_ge hk2 (by omega)
    · rw [es]
      refine py_rd ha hfit eL eZ h1 hLZ ?_
      rw [Nat.mul_div_cancel _ (pt_pp L), Nat.mod_eq_of_lt hk2]
      refine br_c (fun e => ⟨v, v, nm_r (e' := nI ((2 ^ Z - 1) * 2 ^ L)) ?_ ⟨v, nm_r (e' := pt_wd w L Z k) ?_ (ht k hk2 e)⟩⟩) (fun e => nm_r (nI_1 k) (ih (k + 1) n (by omega) (by omega) fun j hj => ?_))
      · rw [i, eZ, pt_ones (by omega), eL, pt_shl (by omega)]
        have := pt_fit hLZ (n := 2 ^ Z - 1) (by omega)
        omega
      · rfl
      · by_cases q : j = k
        · rw [q]
          exact e
        · exact h j (by omega)
end PTC
