/-! add and field: what each side does, by cases that both share -/
/-- every place of the table holds a mask and bits within it, and at most three fields within a word -/
def pt_Tab (ma fi : Nat → Int32) : Prop := ∀ p, p < 16 → ∃ M F, M < 4096 ∧ F < 4096 ∧ F &&& M = F ∧ ma p = nI M ∧ fi p = nI F
def pt_Fld (fc lo si : Nat → Int32) : Prop := ∀ p, p < 16 → ∃ K, K ≤ 3 ∧ fc p = nI K ∧ ∀ k, k < K → ∃ L Z, 1 ≤ Z ∧ L + Z ≤ 12 ∧ lo (p * 3 + k) = nI L ∧ si (p * 3 + k) = nI Z
def pt_ok (x y : Int32) (M : Nat) : Prop := ∃ L Z, x = nI L ∧ y = nI Z ∧ 1 ≤ Z ∧ L + Z ≤ 12 ∧ ∀ j, L ≤ j → j < L + Z → M / 2 ^ j % 2 = 0
theorem pt_ovl {ma fi : Nat → Int32} {c M B : Nat} (hc : c ≤ 16) (hB : B < 4096) (hs : B &&& M = B) (J : pt_Tab ma fi) :
    (∃ p, 0 ≤ p ∧ p < c ∧ (ma p &&& nI M) &&& (fi p ^^^ nI B) = 0) ↔ ∃ j, j < 4096 ∧ nI j &&& nI M = nI B ∧ ¬ pt_dec ma fi (nI j) c 0 < 0 := by
  constructor
  · rintro ⟨p, _, hp, e⟩
    obtain ⟨m, f, hm, hf, hfm, em, ef⟩ := J p (by omega)
    have hlt : m &&& M &&& (f ^^^ B) < 2 ^ 12 := Nat.and_lt_two_pow _ (Nat.xor_lt_two_pow (n := 12) hf hB)
    rw [em, ef, nx_and, nx_xor, nx_and, ← nI_0, nI_eq (by omega) (by omega), pt_ov hfm hs hf hB] at e
    obtain ⟨u, hu, h1, h2⟩ := e
    refine ⟨u, hu, by rw [nx_and, h1], ?_⟩
    rcases pt_dec_or (ma := ma) (fi := fi) (x := nI u) c 0 with ⟨_, q⟩ | ⟨j, _, hj, q, _⟩
    · exact absurd (by rw [em, ef, nx_and, h2]) (q p (by omega) (by omega))
    · rw [q]
      exact nI_pos (by omega)
  · rintro ⟨j, hj, e, hd⟩
    rcases pt_dec_or (ma := ma) (fi := fi) (x := nI j) c 0 with ⟨q, _⟩ | ⟨p, _, hp, _, q⟩
    · rw [q] at hd
      exact absurd pt_n8 hd
    · obtain ⟨m, f, hm, hf, hfm, em, ef⟩ := J p (by omega)
      have hlt : m &&& M &&& (f ^^^ B) < 2 ^ 12 := Nat.and_lt_two_pow _ (Nat.xor_lt_two_pow (n := 12) hf hB)
      have a1 : j &&& M ≤ j := Nat.and_le_left
      have a2 : j &&& m ≤ j := Nat.and_le_left
      rw [nx_and, nI_eq (by omega) (by omega)] at e
      rw [em, ef, nx_and, nI_eq (by omega) (by omega)] at q
      refine ⟨p, by omega, by omega, ?_⟩
      rw [em, ef, nx_and, nx_xor, nx_and, ← nI_0, nI_eq (by omega) (by omega), pt_ov hfm hs hf hB]
      exact ⟨j, hj, e, q⟩
section PTD
variable {c : Nat} {b w : Int32} {ma fi fc lo si sg : Nat → Int32}
theorem px_ov_l {post : Int32 → Prop} {x y : Int32} (hc : c ≤ 16) : ∀ d p n, p + d = c → d < n → ((∃ j, p ≤ j ∧ j < c ∧ (ma j &&& x) &&& (fi j ^^^ y) = 0) → post 1) → ((¬ ∃ j, p ≤ j ∧ j < c ∧ (ma j &&& x) &&& (fi j ^^^ y) = 0) → post 0) → wX_overlapsTable_2 post x y (nI c) b w ma fi fc lo si sg n (nI p) := by
  intro d
  induction d with
  | zero =>
    intro p n hp hn h1 h0
    obtain ⟨n, rfl⟩ : ∃ k, n = k + 1 := ⟨n - 1, by omega⟩
    exact br_t (nI_le (by omega) (by omega)) (h0 fun ⟨j, a, q, _⟩ => by omega)
  | succ d ih =>
    intro p n hp hn h1 h0
    obtain ⟨n, rfl⟩ : ∃ k, n = k + 1 := ⟨n - 1, by omega⟩
    have i : (nI p).toNatClampNeg = p := nI_clamp (by omega)
    have v : vp_in (nI p) 16 := vp_in_nI (by omega) (by decide)
    refine br_f (nI_ge (by omega) (by omega)) ⟨v, v, br_c (fun e => ?_) (fun e => nm_r (nI_1 p) (ih (p + 1) n (by omega) (by omega) (fun q => ?_) (fun q => h0 fun r => q ?_)))⟩
    · rw [i] at e
      exact h1 ⟨p, Nat.le_refl p, by omega, e⟩
    · obtain ⟨j, a, t, r⟩ := q
      exact h1 ⟨j, by omega, t, r⟩
    · rw [i] at e
      obtain ⟨j, a, t, r⟩ := r
      by_cases z : j = p
      · rw [z] at r
        exact absurd r e
      · exact ⟨j, by omega, t, r⟩
theorem px_ov {post : Int32 → Prop} {x y : Int32} (hc : c ≤ 16) (h1 : (∃ j, 0 ≤ j ∧ j < c ∧ (ma j &&& x) &&& (fi j ^^^ y) = 0) → post 1) (h0 : (¬ ∃ j, 0 ≤ j ∧ j < c ∧ (ma j &&& x) &&& (fi j ^^^ y) = 0) → post 0) : wpX_overlapsTable post (nI c, b, w, ma, fi, fc, lo, si, sg) x y := ⟨c + 1, px_ov_l hc c 0 (c + 1) (by omega) (by omega) h1 h0⟩
theorem py_add_l {post : Int32 → SY → Prop} {x y : Int32} (hc : c < 16)
    (h1 : (∃ j, j < 4096 ∧ nI j &&& x = y ∧ ¬ pt_dec ma fi (nI j) c 0 < 0) → post (-2) (nI c, b, w, ma, fi, fc, lo, si, sg))
    (h0 : (¬ ∃ j, j < 4096 ∧ nI j &&& x = y ∧ ¬ pt_dec ma fi (nI j) c 0 < 0) → post (nI c) (nI (c + 1), b, w, upd ma c x, upd fi c y, upd fc c 0, lo, si, sg)) :
    ∀ d k n, k + d = 4096 → d < n → (¬ ∃ j, j < k ∧ nI j &&& x = y ∧ ¬ pt_dec ma fi (nI j) c 0 < 0) → wY_add_40 post x y (nI c) b w ma fi fc lo si sg n (nI k) := by
  have i : (nI c).toNatClampNeg = c := nI_clamp (by omega)
  have v : vp_in (nI c) 16 := vp_in_nI (by omega) (by decide)
  intro d
  induction d with
  | zero =>
    intro k n hk hn h
    obtain ⟨n, rfl⟩ : ∃ j, n = j + 1 := ⟨n - 1, by omega⟩
    obtain rfl : k = 4096 := by omega
    refine br_t (nI_le (a := 4096) (by omega) (by omega)) ⟨v, nm_r (e' := upd ma c x) (by rw [i]) ⟨v, nm_r (e' := upd fi c y) (by rw [i]) ⟨v, nm_r (e' := upd fc c 0) (by rw [i]) (nm_r (nI_1 c) ?_)⟩⟩⟩
    rw [nI_pred]
    exact h0 h
  | succ d ih =>
    intro k n hk hn h
    obtain ⟨n, rfl⟩ : ∃ j, n = j + 1 := ⟨n - 1, by omega⟩
    refine br_f (nI_ge (b := 4096) (by omega) (by decide)) (br_c (fun e => py_pc (by omega) (by omega) (br_c (fun q => ?_) (fun q => ?_))) (fun e => ?_))
    · refine nm_r (nI_1 k) (ih (k + 1) n (by omega) (by omega) fun ⟨j, a, t, r⟩ => ?_)
      by_cases z : j = k
      · rw [z] at r
        exact r q
      · exact h ⟨j, by omega, t, r⟩
    · exact h1 ⟨k, by omega, e, q⟩
    · refine nm_r (nI_1 k) (ih (k + 1) n (by omega) (by omega) fun ⟨j, a, t, r⟩ => ?_)
      by_cases z : j = k
      · rw [z] at t
        exact e t
      · exact h ⟨j, by omega, t, r⟩
theorem px_add_m {post : Int32 → SX → Prop} {x y : Int32} (hx : x < 0 ∨ nI 4096 ≤ x) (h : post (-1) (nI c, b, w, ma, fi, fc, lo, si, sg)) : wpX_add post (nI c, b, w, ma, fi, fc, lo, si, sg) x y := by
  unfold wpX_add
  dsimp only
  exact px_isW_f hx (br_t rfl h)
theorem px_add_b {post : Int32 → SX → Prop} {M : Nat} {y : Int32} (hM : M < 4096) (hy : y < 0 ∨ nI 4096 ≤ y) (h : post (-1) (nI c, b, w, ma, fi, fc, lo, si, sg)) : wpX_add post (nI c, b, w, ma, fi, fc, lo, si, sg) (nI M) y := by
  unfold wpX_add
  dsimp only
  exact px_isW_t hM (br_f pt_10 (px_isW_f hy (br_t rfl h)))
theorem px_add_s {post : Int32 → SX → Prop} {M B : Nat} (hM : M < 4096) (hB : B < 4096) (e : ¬ nI B &&& (nI M ^^^ (-1)) = 0) (h : post (-1) (nI c, b, w, ma, fi, fc, lo, si, sg)) : wpX_add post (nI c, b, w, ma, fi, fc, lo, si, sg) (nI M) (nI B) := by
  unfold wpX_add
  dsimp only
  exact px_isW_t hM (br_f pt_10 (px_isW_t hB (br_f pt_10 (br_f e h))))
theorem px_add_u {post : Int32 → SX → Prop} {M B : Nat} (hM : M < 4096) (hB : B < 4096) (e : nI B &&& (nI M ^^^ (-1)) = 0) (hc : c = 16) (h : post (-3) (nI c, b, w, ma, fi, fc, lo, si, sg)) : wpX_add post (nI c, b, w, ma, fi, fc, lo, si, sg) (nI M) (nI B) := by
  unfold wpX_add
  dsimp only
  refine px_isW_t hM (br_f pt_10 (px_isW_t hB (br_f pt_10 (br_t e (br_f ?_ h)))))
  rw [hc]
  decide
theorem py_add_m {post : Int32 → SY → Prop} {x y : Int32} (hx : x < 0 ∨ nI 4096 ≤ x) (h : post (-1) (nI c, b, w, ma, fi, fc, lo, si, sg)) : wpY_add post (nI c, b, w, ma, fi, fc, lo, si, sg) x y := by
  unfold wpY_add
  dsimp only
  exact py_isW_f hx (br_t rfl h)
theorem py_add_b {post : Int32 → SY → Prop} {M : Nat} {y : Int32} (hM : M < 4096) (hy : y < 0 ∨ nI 4096 ≤ y) (h : post (-1) (nI c, b, w, ma, fi, fc, lo, si, sg)) : wpY_add post (nI c, b, w, ma, fi, fc, lo, si, sg) (nI M) y := by
  unfold wpY_add
  dsimp only
  exact py_isW_t hM (br_f pt_10 (py_isW_f hy (br_t rfl h)))
theorem py_add_s {post : Int32 → SY → Prop} {M B : Nat} (hM : M < 4096) (hB : B < 4096) (e : ¬ nI B &&& (nI M ^^^ (-1)) = 0) (h : post (-1) (nI c, b, w, ma, fi, fc, lo, si, sg)) : wpY_add post (nI c, b, w, ma, fi, fc, lo, si, sg) (nI M) (nI B) := by
  unfold wpY_add
  dsimp only
  exact py_isW_t hM (br_f pt_10 (py_isW_t hB (br_f pt_10 (br_f e h))))
theorem py_add_u {post : Int32 → SY → Prop} {M B : Nat} (hM : M < 4096) (hB : B < 4096) (e : nI B &&& (nI M ^^^ (-1)) = 0) (hc : c = 16) (h : post (-3) (nI c, b, w, ma, fi, fc, lo, si, sg)) : wpY_add post (nI c, b, w, ma, fi, fc, lo, si, sg) (nI M) (nI B) := by
  unfold wpY_add
  dsimp only
  refine py_isW_t hM (br_f pt_10 (py_isW_t hB (br_f pt_10 (br_t e (br_t ?_ h)))))
  rw [hc]
  decide
theorem px_add_k {post : Int32 → SX → Prop} {M B : Nat} (hM : M < 4096) (hB : B < 4096) (e : nI B &&& (nI M ^^^ (-1)) = 0) (hc : c < 16)
    (h1 : (∃ j, 0 ≤ j ∧ j < c ∧ (ma j &&& nI M) &&& (fi j ^^^ nI B) = 0) → post (-2) (nI c, b, w, ma, fi, fc, lo, si, sg))
    (h0 : (¬ ∃ j, 0 ≤ j ∧ j < c ∧ (ma j &&& nI M) &&& (fi j ^^^ nI B) = 0) → post (nI c) (nI (c + 1), b, w, upd ma c (nI M), upd fi c (nI B), upd fc c 0, lo, si, sg)) : wpX_add post (nI c, b, w, ma, fi, fc, lo, si, sg) (nI M) (nI B) := by
  have i : (nI c).toNatClampNeg = c := nI_clamp (by omega)
  have v : vp_in (nI c) 16 := vp_in_nI (by omega) (by decide)
  unfold wpX_add
  dsimp only
  exact px_isW_t hM (br_f pt_10 (px_isW_t hB (br_f pt_10 (br_t e (br_t (nI_lt (b := 16) hc (by decide)) (px_ov (by omega) (fun q => br_f pt_10 (h1 q)) (fun q => br_t rfl ⟨v, nm_r (e' := upd ma c (nI M)) (by rw [i]) ⟨v, nm_r (e' := upd fi c (nI B)) (by rw [i]) ⟨v, nm_r (e' := upd fc c 0) (by rw [i]) (nm_r (nI_1 c) (h0 q))⟩⟩⟩)))))))
theorem py_add_k {post : Int32 → SY → Prop} {M B : Nat} (hM : M < 4096) (hB : B < 4096) (e : nI B &&& (nI M ^^^ (-1)) = 0) (hc : c < 16)
    (h1 : (∃ j, j < 4096 ∧ nI j &&& nI M = nI B ∧ ¬ pt_dec ma fi (nI j) c 0 < 0) → post (-2) (nI c, b, w, ma, fi, fc, lo, si, sg))
    (h0 : (¬ ∃ j, j < 4096 ∧ nI j &&& nI M = nI B ∧ ¬ pt_dec ma fi (nI j) c 0 < 0) → post (nI c) (nI (c + 1), b, w, upd ma c (nI M), upd fi c (nI B), upd fc c 0, lo, si, sg)) : wpY_add post (nI c, b, w, ma, fi, fc, lo, si, sg) (nI M) (nI B) := by
  have n16 : ¬ nI c = 16 := fun z => by
    have := (nI_eq (b := 16) (by omega) (by decide)).mp z
    omega
  unfold wpY_add
  dsimp only
  exact py_isW_t hM (br_f pt_10 (py_isW_t hB (br_f pt_10 (br_t e (br_f n16 ⟨4097, py_add_l hc h1 h0 4096 0 4097 (by omega) (by omega) (fun ⟨j, a, _⟩ => by omega)⟩)))))
/-! field -/
theorem px_field_p {post : Int32 → SX → Prop} {t x y z : Int32} (ht : t < 0 ∨ nI c ≤ t) (h : post (-4) (nI c, b, w, ma, fi, fc, lo, si, sg)) : wpX_field post (nI c, b, w, ma, fi, fc, lo, si, sg) t x y z := by
  unfold wpX_field
  dsimp only
  exact px_isP_f ht (br_t rfl h)
theorem py_field_p {post : Int32 → SY → Prop} {t x y z : Int32} (ht : t < 0 ∨ nI c ≤ t) (h : post (-4) (nI c, b, w, ma, fi, fc, lo, si, sg)) : wpY_field post (nI c, b, w, ma, fi, fc, lo, si, sg) t x y z := by
  unfold wpY_field
  dsimp only
  exact py_isP_f ht (br_t rfl h)
theorem px_str {post : Int32 → Prop} {x y : Int32} (ht : ∀ L Z, x = nI L → y = nI Z → 1 ≤ Z → L + Z ≤ 12 → post 1) (hf : (¬ ∃ L Z, x = nI L ∧ y = nI Z ∧ 1 ≤ Z ∧ L + Z ≤ 12) → post 0) : wpX_isStretchOfBits post x y := by
  refine br_c (fun h => hf ?_) (fun h => br_c (fun h2 => hf ?_) (fun h2 => br_c (fun h3 => hf ?_) (fun h3 => br_c (fun h4 => hf ?_) (fun h4 => ?_))))
  · rintro ⟨L, Z, rfl, rfl, h5, h6⟩
    exact nI_pos (by omega) h
  · rintro ⟨L, Z, rfl, rfl, h5, h6⟩
    exact nI_ge (b := 12) (by omega) (by decide) h2
  · rintro ⟨L, Z, rfl, rfl, h5, h6⟩
    exact nI_nlt (b := 1) h5 (by omega) h3
  · rintro ⟨L, Z, rfl, rfl, h5, h6⟩
    rw [show (12 : Int32) - nI L = nI (12 - L) from pk_sub (a := 12) (by omega)] at h4
    exact nI_nlt (by omega) (by omega) h4
  · obtain ⟨L, hL, rfl⟩ := nI_of h
    have hL2 : L < 12 := by
      apply Nat.lt_of_not_le
      exact fun q => h2 (nI_le (a := 12) q hL)
    have hy : ¬ y < 0 := fun q => h3 (Int32.lt_trans q (by decide))
    obtain ⟨Z, hZ, rfl⟩ := nI_of hy
    have hZ1 : 1 ≤ Z := by
      apply Nat.le_of_not_lt
      exact fun q => h3 (nI_lt (b := 1) q (by decide))
    rw [show (12 : Int32) - nI L = nI (12 - L) from pk_sub (a := 12) (by omega), nI_ltI (by omega) hZ] at h4
    exact ht L Z rfl rfl hZ1 (by omega)
theorem px_field {post : Int32 → SX → Prop} {p M K : Nat} {x y z : Int32} (hc : c ≤ 16) (hp : p < c) (eM : ma p = nI M) (hM : M < 4096) (eK : fc p = nI K) (hK : K ≤ 3)
    (h5 : ¬ pt_ok x y M → post (-5) (nI c, b, w, ma, fi, fc, lo, si, sg)) (h3 : pt_ok x y M → K = 3 → post (-3) (nI c, b, w, ma, fi, fc, lo, si, sg))
    (hk : pt_ok x y M → K < 3 → post (nI K) (nI c, b, w, ma, fi, upd fc p (nI (K + 1)), upd lo (p * 3 + K) x, upd si (p * 3 + K) y, upd sg (p * 3 + K) (vp_nar .boolean z))) : wpX_field post (nI c, b, w, ma, fi, fc, lo, si, sg) (nI p) x y z := by
  have i : (nI p).toNatClampNeg = p := nI_clamp (by omega)
  have v : vp_in (nI p) 16 := vp_in_nI (by omega) (by decide)
  unfold wpX_field
  dsimp only
  refine px_isP_t hp hc (br_f pt_10 (px_str (fun L Z eL eZ hZ1 hLZ => br_f pt_10 ?_) (fun q => br_t rfl (h5 fun ⟨L, Z, a, a2, a3, a4, _⟩ => q ⟨L, Z, a, a2, a3, a4⟩))))
  subst eL
  subst eZ
  have hp1 := pt_pw (s := Z) (by omega)
  have hp0 := pt_pp Z
  have hfit := pt_fit hLZ (n := 2 ^ Z - 1) (by omega)
  have em : ma (nI p).toNatClampNeg &&& (nI (2 ^ Z - 1) <<< (nI L &&& 31)) = nI (M &&& ((2 ^ Z - 1) * 2 ^ L)) := by
    rw [i, eM, pt_shl (by omega) (by omega), nx_and]
  have hle : M &&& ((2 ^ Z - 1) * 2 ^ L) ≤ M := Nat.and_le_left
  have e0 : nI (M &&& ((2 ^ Z - 1) * 2 ^ L)) = 0 ↔ ∀ j, L ≤ j → j < L + Z → M / 2 ^ j % 2 = 0 := by
    rw [← nI_0, nI_eq (by omega) (by omega), pt_free]
  have hok : (∀ j, L ≤ j → j < L + Z → M / 2 ^ j % 2 = 0) → pt_ok (nI L) (nI Z) M := fun q => ⟨L, Z, rfl, rfl, hZ1, hLZ, q⟩
  have hno : (¬ ∀ j, L ≤ j → j < L + Z → M / 2 ^ j % 2 = 0) → ¬ pt_ok (nI L) (nI Z) M := by
    rintro q ⟨L', Z', a1, a2, a3, a4, a5⟩
    rw [nI_eq (by omega) (by omega)] at a1
    rw [nI_eq (by omega) (by omega)] at a2
    rw [← a1, ← a2] at a5
    exact q a5
  refine ⟨v, px_ones (by omega) ?_⟩
  rw [em, e0]
  refine br_c (fun q => ⟨v, nm_r (e' := nI K) (by rw [i, eK]) (br_c (fun k3 => ?_) (fun k3 => ?_))⟩) (fun q => h5 (hno q))
  · have hK3 : K < 3 := (nI_ltI (b := 3) (by omega) (by decide)).mp k3
    have i2 : (nI (p * 3 + K)).toNatClampNeg = p * 3 + K := nI_clamp (by omega)
    have v2 : vp_in (nI (p * 3 + K)) 48 := vp_in_nI (by omega) (by decide)
    exact px_slot ⟨v2, nm_r (e' := upd lo (p * 3 + K) (nI L)) (by rw [i2]) ⟨v2, nm_r (e' := upd si (p * 3 + K) (nI Z)) (by rw [i2]) ⟨v2, nm_r (e' := upd sg (p * 3 + K) (vp_nar .boolean z)) (by rw [i2]) ⟨v, nm_r (e' := upd fc p (nI (K + 1))) (by rw [i, nI_1]) (hk (hok q) hK3)⟩⟩⟩⟩
  · have hK3 : ¬ K < 3 := fun r => k3 (nI_lt (b := 3) r (by decide))
    exact h3 (hok q) (by omega)
theorem py_field_l {post : Int32 → SY → Prop} {p M K L Z : Nat} {z : Int32} (hp : p < 16) (eM : ma p = nI M) (hM : M < 4096) (eK : fc p = nI K) (hK : K ≤ 3) (hLZ : L + Z ≤ 12)
    (h5 : (¬ ∀ j, L ≤ j → j < L + Z → M / 2 ^ j % 2 = 0) → post (-5) (nI c, b, w, ma, fi, fc, lo, si, sg)) (h3 : (∀ j, L ≤ j → j < L + Z → M / 2 ^ j % 2 = 0) → K = 3 → post (-3) (nI c, b, w, ma, fi, fc, lo, si, sg))
    (hk : (∀ j, L ≤ j → j < L + Z → M / 2 ^ j % 2 = 0) → K < 3 → post (nI K) (nI c, b, w, ma, fi, upd fc p (nI (K + 1)), upd lo (p * 3 + K) (nI L), upd si (p * 3 + K) (nI Z), upd sg (p * 3 + K) (vp_nar .boolean z))) :
    ∀ d k n, k + d = L + Z → L ≤ k → d < n → (∀ j, L ≤ j → j < k → M / 2 ^ j % 2 = 0) → wY_field_46 post (nI p) (nI L) (nI Z) z (nI c) b w ma fi fc lo si sg n (nI k) := by
  have i : (nI p).toNatClampNeg = p := nI_clamp (by omega)
  have v : vp_in (nI p) 16 := vp_in_nI (by omega) (by decide)
  intro d
  induction d with
  | zero =>
    intro k n hkd hLk hn h
    obtain ⟨n, rfl⟩ : ∃ j, n = j + 1 := ⟨n - 1, by omega⟩
    obtain rfl : k = L + Z := by omega
    refine br_t (by rw [nI_add]; exact nI_le (Nat.le_refl _) (by omega)) ⟨v, br_c (fun e => ?_) (fun e => ?_)⟩
    · rw [i, eK] at e
      exact h3 h ((nI_eq (b := 3) (by omega) (by decide)).mp e)
    · rw [i, eK] at e
      have hK3 : K < 3 := by
        have : K ≠ 3 := fun r => e (by rw [r]; rfl)
        omega
      have i2 : (nI (p * 3 + K)).toNatClampNeg = p * 3 + K := nI_clamp (by omega)
      have v2 : vp_in (nI (p * 3 + K)) 48 := vp_in_nI (by omega) (by decide)
      refine ⟨v, nm_r (e' := nI (p * 3 + K)) (by rw [i, eK]; exact pt_slot p K) ⟨v2, nm_r (e' := upd lo (p * 3 + K) (nI L)) (by rw [i2]) ⟨v2, nm_r (e' := upd si (p * 3 + K) (nI Z)) (by rw [i2]) ⟨v2, nm_r (e' := upd sg (p * 3 + K) (vp_nar .boolean z)) (by rw [i2]) ⟨v, v, nm_r (e' := upd fc p (nI (K + 1))) (by rw [i, eK, nI_1]) ⟨v, ?_⟩⟩⟩⟩⟩⟩
      rw [i, pk_us, nI_pred]
      exact hk h hK3
  | succ d ih =>
    intro k n hkd hLk hn h
    obtain ⟨n, rfl⟩ : ∃ j, n = j + 1 := ⟨n - 1, by omega⟩
    have eb : (ma (nI p).toNatClampNeg >>> (nI k &&& 31)) &&& 1 = nI (M / 2 ^ k % 2) := by
      rw [i, eM, pt_shr (by omega) (by omega), pt_and1 _ (Nat.lt_of_le_of_lt (Nat.div_le_self _ _) (by omega))]
    have e0 : nI (M / 2 ^ k % 2) = 0 ↔ M / 2 ^ k % 2 = 0 := by rw [← nI_0, nI_eq (by omega) (by omega)]
    refine br_f (by rw [nI_add]; exact nI_ge (by omega) (by omega)) ⟨v, ?_⟩
    rw [eb, e0]
    refine br_c (fun e => nm_r (nI_1 k) (ih (k + 1) n (by omega) (by omega) (by omega) fun j a1 a2 => ?_)) (fun e => h5 fun q => e (q k hLk (by omega)))
    by_cases r : j = k
    · rw [r]
      exact e
    · exact h j a1 (by omega)
theorem py_field {post : Int32 → SY → Prop} {p M K : Nat} {x y z : Int32} (hc : c ≤ 16) (hp : p < c) (eM : ma p = nI M) (hM : M < 4096) (eK : fc p = nI K) (hK : K ≤ 3)
    (h5 : ¬ pt_ok x y M → post (-5) (nI c, b, w, ma, fi, fc, lo, si, sg)) (h3 : pt_ok x y M → K = 3 → post (-3) (nI c, b, w, ma, fi, fc, lo, si, sg))
    (hk : pt_ok x y M → K < 3 → post (nI K) (nI c, b, w, ma, fi, upd fc p (nI (K + 1)), upd lo (p * 3 + K) x, upd si (p * 3 + K) y, upd sg (p * 3 + K) (vp_nar .boolean z))) : wpY_field post (nI c, b, w, ma, fi, fc, lo, si, sg) (nI p) x y z := by
  unfold wpY_field
  dsimp only
  refine py_isP_t hp hc (br_f pt_10 (br_c (fun h => h5 ?_) (fun h => br_c (fun h2 => h5 ?_) (fun h2 => br_c (fun g3 => h5 ?_) (fun g3 => br_c (fun h4 => h5 ?_) (fun h4 => ?_))))))
  · rintro ⟨L, Z, rfl, rfl, a1, a2, _⟩
    exact nI_pos (by omega) h
  · rintro ⟨L, Z, rfl, rfl, a1, a2, _⟩
    have := (nI_ltI (a := 11) (by decide) (by omega)).mp h2
    omega
  · rintro ⟨L, Z, rfl, rfl, a1, a2, _⟩
    exact nI_nlt (b := 1) a1 (by omega) g3
  · rintro ⟨L, Z, rfl, rfl, a1, a2, _⟩
    have := (nI_ltI (a := 12) (by decide) (by omega)).mp h4
    omega
  · obtain ⟨L, hL, rfl⟩ := nI_of h
    have hL2 : L ≤ 11 := by
      apply Nat.le_of_not_lt
      exact fun q => h2 (nI_lt (a := 11) q hL)
    have hy : ¬ y < 0 := fun q => g3 (Int32.lt_trans q (by decide))
    obtain ⟨Z, hZ, rfl⟩ := nI_of hy
    have hZ1 : 1 ≤ Z := by
      apply Nat.le_of_not_lt
      exact fun q => g3 (nI_lt (b := 1) q (by decide))
    have hZ2 : Z ≤ 12 := by
      apply Nat.le_of_not_lt
      exact fun q => h4 (nI_lt (a := 12) q hZ)
    rw [nI_add]
    refine pk_le (L + Z) 12 (fun q => ?_) (fun q => h5 ?_)
    · have hno : (¬ ∀ j, L ≤ j → j < L + Z → M / 2 ^ j % 2 = 0) → ¬ pt_ok (nI L) (nI Z) M := by
        rintro q2 ⟨L', Z', a1, a2, a3, a4, a5⟩
        rw [nI_eq (by omega) (by omega)] at a1
        rw [nI_eq (by omega) (by omega)] at a2
        rw [← a1, ← a2] at a5
        exact q2 a5
      have hok : (∀ j, L ≤ j → j < L + Z → M / 2 ^ j % 2 = 0) → pt_ok (nI L) (nI Z) M := fun r => ⟨L, Z, rfl, rfl, hZ1, q, r⟩
      exact ⟨Z + 1, py_field_l (by omega) eM hM eK hK q (fun r => h5 (hno r)) (fun r r3 => h3 (hok r) r3) (fun r r3 => hk (hok r) r3) Z L (Z + 1) rfl (Nat.le_refl L) (by omega) (fun j a1 a2 => by omega)⟩
    · rintro ⟨L', Z', a1, a2, a3, a4, _⟩
      rw [nI_eq (by omega) (by omega)] at a1
      rw [nI_eq (by omega) (by omega)] at a2
      omega
end PTD
