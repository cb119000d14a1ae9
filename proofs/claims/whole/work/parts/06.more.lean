/-! begin, operand, value -/
section PTE
variable {c : Nat} {b w : Int32} {ma fi fc lo si sg : Nat → Int32}
theorem px_begin_f {post : Int32 → SX → Prop} {x : Int32} (hx : x < 0 ∨ nI c ≤ x) (h : post (-4) (nI c, b, w, ma, fi, fc, lo, si, sg)) : wpX_begin post (nI c, b, w, ma, fi, fc, lo, si, sg) x := by
  unfold wpX_begin
  dsimp only
  exact px_isP_f hx (br_t rfl h)
theorem px_begin_t {post : Int32 → SX → Prop} {j : Nat} (hc : c ≤ 16) (hj : j < c) (h : post (fi j) (nI c, nI j, fi j, ma, fi, fc, lo, si, sg)) : wpX_begin post (nI c, b, w, ma, fi, fc, lo, si, sg) (nI j) := by
  have i : (nI j).toNatClampNeg = j := nI_clamp (by omega)
  have v : vp_in (nI j) 16 := vp_in_nI (by omega) (by decide)
  unfold wpX_begin
  dsimp only
  exact px_isP_t hj hc (br_f pt_10 ⟨v, nm_r (e' := fi j) (by rw [i]) h⟩)
theorem py_begin_f {post : Int32 → SY → Prop} {x : Int32} (hx : x < 0 ∨ nI c ≤ x) (h : post (-4) (nI c, b, w, ma, fi, fc, lo, si, sg)) : wpY_begin post (nI c, b, w, ma, fi, fc, lo, si, sg) x := by
  unfold wpY_begin
  dsimp only
  exact py_isP_f hx (br_t rfl h)
theorem py_begin_t {post : Int32 → SY → Prop} {j : Nat} (hc : c ≤ 16) (hj : j < c) (h : post (fi j) (nI c, nI j, fi j, ma, fi, fc, lo, si, sg)) : wpY_begin post (nI c, b, w, ma, fi, fc, lo, si, sg) (nI j) := by
  have i : (nI j).toNatClampNeg = j := nI_clamp (by omega)
  have v : vp_in (nI j) 16 := vp_in_nI (by omega) (by decide)
  unfold wpY_begin
  dsimp only
  exact py_isP_t hj hc (br_f pt_10 ⟨v, nm_r (e' := fi j) (by rw [i]) h⟩)
theorem px_op_n {post : Int32 → SX → Prop} {x y : Int32} (hb : b < 0) (h : post (-4) (nI c, b, w, ma, fi, fc, lo, si, sg)) : wpX_operand post (nI c, b, w, ma, fi, fc, lo, si, sg) x y := by
  unfold wpX_operand
  dsimp only
  exact px_isP_f (Or.inl hb) (br_t rfl h)
theorem py_op_n {post : Int32 → SY → Prop} {x y : Int32} (hb : b < 0) (h : post (-4) (nI c, b, w, ma, fi, fc, lo, si, sg)) : wpY_operand post (nI c, b, w, ma, fi, fc, lo, si, sg) x y := by
  unfold wpY_operand
  dsimp only
  exact br_f (Int32.not_le.mpr hb) h
theorem px_op_f {post : Int32 → SX → Prop} {j K : Nat} {x y : Int32} (hc : c ≤ 16) (hj : j < c) (eK : fc j = nI K) (hx : x < 0 ∨ nI K ≤ x) (h : post (-5) (nI c, nI j, w, ma, fi, fc, lo, si, sg)) : wpX_operand post (nI c, nI j, w, ma, fi, fc, lo, si, sg) x y := by
  unfold wpX_operand
  dsimp only
  exact px_isP_t hj hc (br_f pt_10 (px_hasF_f (by omega) eK hx (br_t rfl h)))
theorem py_op_f {post : Int32 → SY → Prop} {j K : Nat} {x y : Int32} (hc : c ≤ 16) (hj : j < c) (eK : fc j = nI K) (hx : x < 0 ∨ nI K ≤ x) (h : post (-5) (nI c, nI j, w, ma, fi, fc, lo, si, sg)) : wpY_operand post (nI c, nI j, w, ma, fi, fc, lo, si, sg) x y := by
  unfold wpY_operand
  dsimp only
  exact br_t (nI_pos' (by omega)) (py_hasF_f (by omega) eK hx (br_t rfl h))
theorem px_op_k {post : Int32 → SX → Prop} {j K k L Z : Nat} {y : Int32} (hc : c ≤ 16) (hj : j < c) (eK : fc j = nI K) (hK : K ≤ 3) (hk : k < K) (eL : lo (j * 3 + k) = nI L) (eZ : si (j * 3 + k) = nI Z) (h1 : 1 ≤ Z) (hLZ : L + Z ≤ 12)
    (hf : (∀ n, n < 2 ^ Z → ¬ pt_rd (sg (j * 3 + k)) Z n = y) → post (-6) (nI c, nI j, w, ma, fi, fc, lo, si, sg))
    (ht : ∀ n, n < 2 ^ Z → pt_rd (sg (j * 3 + k)) Z n = y → post (pt_wd w L Z n) (nI c, nI j, pt_wd w L Z n, ma, fi, fc, lo, si, sg)) : wpX_operand post (nI c, nI j, w, ma, fi, fc, lo, si, sg) (nI k) y := by
  have ha : j * 3 + k < 48 := by omega
  have i2 : (nI (j * 3 + k)).toNatClampNeg = j * 3 + k := nI_clamp (by omega)
  have v2 : vp_in (nI (j * 3 + k)) 48 := vp_in_nI ha (by decide)
  have hp1 := pt_pw (s := Z) (by omega)
  have hp0 := pt_pp Z
  have hfit := pt_fit hLZ (n := 2 ^ Z - 1) (by omega)
  unfold wpX_operand
  dsimp only
  refine px_isP_t hj hc (br_f pt_10 (px_hasF_t (by omega) eK hK hk (br_f pt_10 (px_slot (px_val ha eZ h1 (by omega) (fun q => br_f pt_10 ⟨v2, nm_r (e' := nI L) (by rw [i2, eL]) ⟨v2, ?_⟩⟩) (fun q => br_t rfl (hf fun n hn e => q ⟨n, hn, e⟩)))))))
  obtain ⟨n, hn, e⟩ := q
  have hfn := pt_fit hLZ hn
  rw [i2, eZ]
  refine px_ones (by omega) (nm_r (e' := pt_wd w L Z n) ?_ (ht n hn e))
  rw [pt_rdm (by omega) hn e, pt_shl (by omega) (by omega), pt_shl (by omega) (by omega)]
  rfl
theorem py_op_k {post : Int32 → SY → Prop} {j K k L Z : Nat} {y : Int32} (hc : c ≤ 16) (hj : j < c) (eK : fc j = nI K) (hK : K ≤ 3) (hk : k < K) (eL : lo (j * 3 + k) = nI L) (eZ : si (j * 3 + k) = nI Z) (h1 : 1 ≤ Z) (hLZ : L + Z ≤ 12)
    (hf : (∀ n, n < 2 ^ Z → ¬ pt_rd (sg (j * 3 + k)) Z n = y) → post (-6) (nI c, nI j, w, ma, fi, fc, lo, si, sg))
    (ht : ∀ n, n < 2 ^ Z → pt_rd (sg (j * 3 + k)) Z n = y → post (pt_wd w L Z n) (nI c, nI j, pt_wd w L Z n, ma, fi, fc, lo, si, sg)) : wpY_operand post (nI c, nI j, w, ma, fi, fc, lo, si, sg) (nI k) y := by
  have ha : j * 3 + k < 48 := by omega
  unfold wpY_operand
  dsimp only
  exact br_t (nI_pos' (by omega)) (py_hasF_t (by omega) eK hK hk (br_f pt_10 (nm_r (pt_slot j k) ⟨2 ^ Z + 1, py_op_l ha eL eZ h1 hLZ hf ht (2 ^ Z) 0 (2 ^ Z + 1) (by omega) (by omega) (fun n hn => by omega)⟩)))
theorem px_va_w {post : Int32 → Prop} {x y : Int32} (hx : x < 0 ∨ nI 4096 ≤ x) (h : post 0) : wpX_value post (nI c, b, w, ma, fi, fc, lo, si, sg) x y := by
  unfold wpX_value
  dsimp only
  exact px_isW_f hx (br_t rfl h)
theorem py_va_w {post : Int32 → Prop} {x y : Int32} (hx : x < 0 ∨ nI 4096 ≤ x) (h : post 0) : wpY_value post (nI c, b, w, ma, fi, fc, lo, si, sg) x y := by
  unfold wpY_value
  dsimp only
  exact py_dec_f hx (br_t (by decide) h)
theorem px_va_n {post : Int32 → Prop} {x : Nat} {y : Int32} (hc : c ≤ 16) (hx : x < 4096) (e : pt_dec ma fi (nI x) c 0 = -8) (h : post 0) : wpX_value post (nI c, b, w, ma, fi, fc, lo, si, sg) (nI x) y := by
  unfold wpX_value
  dsimp only
  refine px_isW_t hx (br_f pt_10 (px_pc hc ?_))
  rw [e]
  exact px_isP_f (Or.inl pt_n8) (br_t rfl h)
theorem py_va_n {post : Int32 → Prop} {x : Nat} {y : Int32} (hc : c ≤ 16) (hx : x < 4096) (e : pt_dec ma fi (nI x) c 0 = -8) (h : post 0) : wpY_value post (nI c, b, w, ma, fi, fc, lo, si, sg) (nI x) y := by
  unfold wpY_value
  dsimp only
  refine py_pc hc hx ?_
  rw [e]
  exact br_t pt_n8 h
theorem px_va_f {post : Int32 → Prop} {x j K : Nat} {y : Int32} (hc : c ≤ 16) (hx : x < 4096) (hj : j < c) (e : pt_dec ma fi (nI x) c 0 = nI j) (eK : fc j = nI K) (hy : y < 0 ∨ nI K ≤ y) (h : post 0) : wpX_value post (nI c, b, w, ma, fi, fc, lo, si, sg) (nI x) y := by
  unfold wpX_value
  dsimp only
  refine px_isW_t hx (br_f pt_10 (px_pc hc ?_))
  rw [e]
  exact px_isP_t hj hc (br_f pt_10 (px_hasF_f (by omega) eK hy (br_t rfl h)))
theorem py_va_f {post : Int32 → Prop} {x j K : Nat} {y : Int32} (hc : c ≤ 16) (hx : x < 4096) (hj : j < c) (e : pt_dec ma fi (nI x) c 0 = nI j) (eK : fc j = nI K) (hy : y < 0 ∨ nI K ≤ y) (h : post 0) : wpY_value post (nI c, b, w, ma, fi, fc, lo, si, sg) (nI x) y := by
  unfold wpY_value
  dsimp only
  refine py_pc hc hx ?_
  rw [e]
  exact br_f (nI_pos (by omega)) (py_hasF_f (by omega) eK hy (br_t rfl h))
theorem px_va_k {post : Int32 → Prop} {x j K k L Z : Nat} (hc : c ≤ 16) (hx : x < 4096) (hj : j < c) (e : pt_dec ma fi (nI x) c 0 = nI j) (eK : fc j = nI K) (hK : K ≤ 3) (hk : k < K) (eL : lo (j * 3 + k) = nI L) (eZ : si (j * 3 + k) = nI Z) (h1 : 1 ≤ Z) (hLZ : L + Z ≤ 12) (h : post (pt_rd (sg (j * 3 + k)) Z (x / 2 ^ L % 2 ^ Z))) : wpX_value post (nI c, b, w, ma, fi, fc, lo, si, sg) (nI x) (nI k) := by
  unfold wpX_value
  dsimp only
  refine px_isW_t hx (br_f pt_10 (px_pc hc ?_))
  rw [e]
  exact px_isP_t hj hc (br_f pt_10 (px_hasF_t (by omega) eK hK hk (br_f pt_10 (px_slot (px_rd (by omega) hx eL eZ h1 hLZ h)))))
theorem py_va_k {post : Int32 → Prop} {x j K k L Z : Nat} (hc : c ≤ 16) (hx : x < 4096) (hj : j < c) (e : pt_dec ma fi (nI x) c 0 = nI j) (eK : fc j = nI K) (hK : K ≤ 3) (hk : k < K) (eL : lo (j * 3 + k) = nI L) (eZ : si (j * 3 + k) = nI Z) (h1 : 1 ≤ Z) (hLZ : L + Z ≤ 12) (h : post (pt_rd (sg (j * 3 + k)) Z (x / 2 ^ L % 2 ^ Z))) : wpY_value post (nI c, b, w, ma, fi, fc, lo, si, sg) (nI x) (nI k) := by
  unfold wpY_value
  dsimp only
  refine py_pc hc hx ?_
  rw [e]
  refine br_f (nI_pos (by omega)) (py_hasF_t (by omega) eK hK hk (br_f pt_10 ?_))
  rw [pt_slot]
  exact py_rd (by omega) hx eL eZ h1 hLZ h
end PTE
