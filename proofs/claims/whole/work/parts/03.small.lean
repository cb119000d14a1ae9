/-! the small methods, and the loops that only read: each side against one pure function -/
def pt_dec (ma fi : Nat → Int32) (x : Int32) : Nat → Nat → Int32
  | 0, _ => -8
  | d + 1, p => if x &&& ma p = fi p then nI p else pt_dec ma fi x d (p + 1)
def pt_hl (ma fi : Nat → Int32) (c : Nat) : Nat → Nat → Int32 → Int32
  | 0, _, a => a
  | d + 1, x, a => if pt_dec ma fi (nI x) c 0 = -8 then pt_hl ma fi c d (x + 1) (a + 1) else pt_hl ma fi c d (x + 1) a
def pt_nh (ma fi : Nat → Int32) (c : Nat) : Nat → Nat → Int32
  | 0, _ => -8
  | d + 1, x => if pt_dec ma fi (nI x) c 0 = -8 then nI x else pt_nh ma fi c d (x + 1)
def pt_cv (M F : Int32) : Nat → Nat → Int32 → Int32
  | 0, _, a => a
  | d + 1, x, a => if nI x &&& M = F then pt_cv M F d (x + 1) (a + 1) else pt_cv M F d (x + 1) a
def pt_nw (M F : Int32) : Nat → Nat → Int32
  | 0, _ => -8
  | d + 1, x => if nI x &&& M = F then nI x else pt_nw M F d (x + 1)
theorem pt_10 : ¬ (1 : Int32) = 0 := by decide
theorem pt_neg {n : Nat} (h : n < 2 ^ 31) : ¬ nI n = -8 ∧ ¬ nI n = -1 := by
  have := nI_pos (n := n) h
  constructor <;> (intro e; rw [e] at this; exact this (by decide))
theorem pt_n8 : (-8 : Int32) < 0 := by decide
theorem pt_n1 : (-1 : Int32) < 0 := by decide
theorem pt_dec_or {ma fi : Nat → Int32} {x : Int32} : ∀ d p, (pt_dec ma fi x d p = -8 ∧ ∀ j, p ≤ j → j < p + d → ¬ x &&& ma j = fi j) ∨ ∃ j, p ≤ j ∧ j < p + d ∧ pt_dec ma fi x d p = nI j ∧ x &&& ma j = fi j := by
  intro d
  induction d with
  | zero => exact fun p => Or.inl ⟨rfl, fun j h1 h2 => by omega⟩
  | succ d ih =>
    intro p
    by_cases e : x &&& ma p = fi p
    · exact Or.inr ⟨p, Nat.le_refl p, by omega, by rw [pt_dec, if_pos e], e⟩
    · have u : pt_dec ma fi x (d + 1) p = pt_dec ma fi x d (p + 1) := by rw [pt_dec, if_neg e]
      rcases ih (p + 1) with ⟨h, h2⟩ | ⟨j, h1, h2, h3, h4⟩
      · refine Or.inl ⟨u.trans h, fun j a b => ?_⟩
        by_cases z : j = p
        · rw [z]; exact e
        · exact h2 j (by omega) (by omega)
      · exact Or.inr ⟨j, by omega, by omega, u.trans h3, h4⟩
section PTA
variable {c : Nat} {b w : Int32} {ma fi fc lo si sg : Nat → Int32} {post : Int32 → Prop}
theorem px_isW_t {x : Nat} (h : x < 4096) (hp : post 1) : wpX_isWord post  (nI x) := br_f (nI_pos (by omega)) (br_f (nI_ge (b := 4096) h (by decide)) hp)
theorem px_isW_f {x : Int32} (h : x < 0 ∨ nI 4096 ≤ x) (hp : post 0) : wpX_isWord post  x := br_c (fun _ => hp) (fun z => br_t (h.resolve_left z) hp)
theorem px_isP_t {p : Nat} (h : p < c) (hc : c ≤ 16) (hp : post 1) : wpX_isPattern post (nI c, b, w, ma, fi, fc, lo, si, sg) (nI p) := br_f (nI_pos (by omega)) (br_f (nI_ge h (by omega)) hp)
theorem px_isP_f {x : Int32} (h : x < 0 ∨ nI c ≤ x) (hp : post 0) : wpX_isPattern post (nI c, b, w, ma, fi, fc, lo, si, sg) x := br_c (fun _ => hp) (fun z => br_t (h.resolve_left z) hp)
theorem px_cov_t {p : Nat} {x : Int32} (h : p < 16) (e : x &&& ma p = fi p) (hp : post 1) : wpX_covers post (nI c, b, w, ma, fi, fc, lo, si, sg) (nI p) x := by
  have i : (nI p).toNatClampNeg = p := nI_clamp (by omega)
  have v : vp_in (nI p) 16 := vp_in_nI h (by decide)
  exact ⟨v, v, br_t (by rw [i]; exact e) hp⟩
theorem px_cov_f {p : Nat} {x : Int32} (h : p < 16) (e : ¬ x &&& ma p = fi p) (hp : post 0) : wpX_covers post (nI c, b, w, ma, fi, fc, lo, si, sg) (nI p) x := by
  have i : (nI p).toNatClampNeg = p := nI_clamp (by omega)
  have v : vp_in (nI p) 16 := vp_in_nI h (by decide)
  exact ⟨v, v, br_f (by rw [i]; exact e) hp⟩
theorem px_hasF_t {p k K : Nat} (h : p < 16) (e : fc p = nI K) (hK : K ≤ 3) (hk : k < K) (hp : post 1) : wpX_hasField post (nI c, b, w, ma, fi, fc, lo, si, sg) (nI p) (nI k) := by
  have i : (nI p).toNatClampNeg = p := nI_clamp (by omega)
  have v : vp_in (nI p) 16 := vp_in_nI h (by decide)
  exact br_f (nI_pos (by omega)) ⟨v, br_f (by rw [i, e]; exact nI_ge hk (by omega)) hp⟩
theorem px_hasF_f {p K : Nat} {x : Int32} (h : p < 16) (e : fc p = nI K) (hx : x < 0 ∨ nI K ≤ x) (hp : post 0) : wpX_hasField post (nI c, b, w, ma, fi, fc, lo, si, sg) (nI p) x := by
  have i : (nI p).toNatClampNeg = p := nI_clamp (by omega)
  have v : vp_in (nI p) 16 := vp_in_nI h (by decide)
  exact br_c (fun _ => hp) (fun z => ⟨v, br_t (by rw [i, e]; exact hx.resolve_left z) hp⟩)
theorem px_pc_l {x : Int32} (hc : c ≤ 16) : ∀ d p n, p + d = c → d < n → post (pt_dec ma fi x d p) → wX_patternCovering_2 post x (nI c) b w ma fi fc lo si sg n (nI p) := by
  intro d
  induction d with
  | zero =>
    intro p n hp hn h
    obtain ⟨n, rfl⟩ : ∃ k, n = k + 1 := ⟨n - 1, by omega⟩
    exact br_t (nI_le (by omega) (by omega)) h
  | succ d ih =>
    intro p n hp hn h
    obtain ⟨n, rfl⟩ : ∃ k, n = k + 1 := ⟨n - 1, by omega⟩
    refine br_f (nI_ge (by omega) (by omega)) ?_
    by_cases e : x &&& ma p = fi p
    · rw [pt_dec, if_pos e] at h
      exact px_cov_t (by omega) e (br_f pt_10 h)
    · rw [pt_dec, if_neg e] at h
      exact px_cov_f (by omega) e (br_t rfl (nm_r (nI_1 p) (ih (p + 1) n (by omega) (by omega) h)))
theorem py_isW_t {x : Nat} (h : x < 4096) (hp : post 1) : wpY_isWord post (nI c, b, w, ma, fi, fc, lo, si, sg) (nI x) := br_f (nI_pos (by omega)) (br_f (nI_ge (b := 4096) h (by decide)) hp)
theorem py_isW_f {x : Int32} (h : x < 0 ∨ nI 4096 ≤ x) (hp : post 0) : wpY_isWord post (nI c, b, w, ma, fi, fc, lo, si, sg) x := br_c (fun _ => hp) (fun z => br_t (h.resolve_left z) hp)
theorem py_isP_t {p : Nat} (h : p < c) (hc : c ≤ 16) (hp : post 1) : wpY_isPattern post (nI c, b, w, ma, fi, fc, lo, si, sg) (nI p) := br_f (nI_pos (by omega)) (br_f (nI_ge h (by omega)) hp)
theorem py_isP_f {x : Int32} (h : x < 0 ∨ nI c ≤ x) (hp : post 0) : wpY_isPattern post (nI c, b, w, ma, fi, fc, lo, si, sg) x := br_c (fun _ => hp) (fun z => br_t (h.resolve_left z) hp)
theorem py_cov_t {p : Nat} {x : Int32} (h : p < 16) (e : x &&& ma p = fi p) (hp : post 1) : wpY_covers post (nI c, b, w, ma, fi, fc, lo, si, sg) (nI p) x := by
  have i : (nI p).toNatClampNeg = p := nI_clamp (by omega)
  have v : vp_in (nI p) 16 := vp_in_nI h (by decide)
  exact ⟨v, v, br_t (by rw [i]; exact e) hp⟩
theorem py_cov_f {p : Nat} {x : Int32} (h : p < 16) (e : ¬ x &&& ma p = fi p) (hp : post 0) : wpY_covers post (nI c, b, w, ma, fi, fc, lo, si, sg) (nI p) x := by
  have i : (nI p).toNatClampNeg = p := nI_clamp (by omega)
  have v : vp_in (nI p) 16 := vp_in_nI h (by decide)
  exact ⟨v, v, br_f (by rw [i]; exact e) hp⟩
theorem py_hasF_t {p k K : Nat} (h : p < 16) (e : fc p = nI K) (hK : K ≤ 3) (hk : k < K) (hp : post 1) : wpY_isField post (nI c, b, w, ma, fi, fc, lo, si, sg) (nI p) (nI k) := by
  have i : (nI p).toNatClampNeg = p := nI_clamp (by omega)
  have v : vp_in (nI p) 16 := vp_in_nI h (by decide)
  exact br_f (nI_pos (by omega)) ⟨v, br_f (by rw [i, e]; exact nI_ge hk (by omega)) hp⟩
theorem py_hasF_f {p K : Nat} {x : Int32} (h : p < 16) (e : fc p = nI K) (hx : x < 0 ∨ nI K ≤ x) (hp : post 0) : wpY_isField post (nI c, b, w, ma, fi, fc, lo, si, sg) (nI p) x := by
  have i : (nI p).toNatClampNeg = p := nI_clamp (by omega)
  have v : vp_in (nI p) 16 := vp_in_nI h (by decide)
  exact br_c (fun _ => hp) (fun z => ⟨v, br_t (by rw [i, e]; exact hx.resolve_left z) hp⟩)
theorem py_pc_l {x : Int32} (hc : c ≤ 16) : ∀ d p n, p + d = c → d < n → post (pt_dec ma fi x d p) → wY_decode_13 post x (nI c) b w ma fi fc lo si sg n (nI p) := by
  intro d
  induction d with
  | zero =>
    intro p n hp hn h
    obtain ⟨n, rfl⟩ : ∃ k, n = k + 1 := ⟨n - 1, by omega⟩
    exact br_t (nI_le (by omega) (by omega)) h
  | succ d ih =>
    intro p n hp hn h
    obtain ⟨n, rfl⟩ : ∃ k, n = k + 1 := ⟨n - 1, by omega⟩
    refine br_f (nI_ge (by omega) (by omega)) ?_
    by_cases e : x &&& ma p = fi p
    · rw [pt_dec, if_pos e] at h
      exact py_cov_t (by omega) e (br_f pt_10 h)
    · rw [pt_dec, if_neg e] at h
      exact py_cov_f (by omega) e (br_t rfl (nm_r (nI_1 p) (ih (p + 1) n (by omega) (by omega) h)))
theorem px_pc {x : Int32} (hc : c ≤ 16) (h : post (pt_dec ma fi x c 0)) : wpX_patternCovering post (nI c, b, w, ma, fi, fc, lo, si, sg) x := ⟨c + 1, px_pc_l hc c 0 (c + 1) (by omega) (by omega) h⟩
theorem px_dec_t {x : Nat} (hc : c ≤ 16) (hx : x < 4096) (h : post (pt_dec ma fi (nI x) c 0)) : wpX_decode post (nI c, b, w, ma, fi, fc, lo, si, sg) (nI x) := by
  unfold wpX_decode
  dsimp only
  exact px_isW_t hx (br_f pt_10 (px_pc hc h))
theorem px_dec_f {x : Int32} (hx : x < 0 ∨ nI 4096 ≤ x) (h : post (-7)) : wpX_decode post (nI c, b, w, ma, fi, fc, lo, si, sg) x := by
  unfold wpX_decode
  dsimp only
  exact px_isW_f hx (br_t rfl h)
theorem py_pc {x : Nat} (hc : c ≤ 16) (hx : x < 4096) (h : post (pt_dec ma fi (nI x) c 0)) : wpY_decode post (nI c, b, w, ma, fi, fc, lo, si, sg) (nI x) := by
  unfold wpY_decode
  dsimp only
  exact py_isW_t hx (br_f pt_10 ⟨c + 1, py_pc_l hc c 0 (c + 1) (by omega) (by omega) h⟩)
theorem py_dec_f {x : Int32} (hx : x < 0 ∨ nI 4096 ≤ x) (h : post (-7)) : wpY_decode post (nI c, b, w, ma, fi, fc, lo, si, sg) x := by
  unfold wpY_decode
  dsimp only
  exact py_isW_f hx (br_t rfl h)
theorem px_hl_l (hc : c ≤ 16) : ∀ d x n a, x + d = 4096 → d < n → post (pt_hl ma fi c d x a) → wX_holes_4 post (nI c) b w ma fi fc lo si sg n a (nI x) := by
  intro d
  induction d with
  | zero =>
    intro x n a hp hn h
    obtain ⟨n, rfl⟩ : ∃ k, n = k + 1 := ⟨n - 1, by omega⟩
    exact br_t (nI_le (a := 4096) (by omega) (by omega)) h
  | succ d ih =>
    intro x n a hp hn h
    obtain ⟨n, rfl⟩ : ∃ k, n = k + 1 := ⟨n - 1, by omega⟩
    refine br_f (nI_ge (b := 4096) (by omega) (by decide)) (px_pc hc  ?_)
    by_cases e : pt_dec ma fi (nI x) c 0 = -8
    · rw [pt_hl, if_pos e] at h
      exact br_t e (nm_e (nm_r (nI_1 x) (ih (x + 1) n _ (by omega) (by omega) h)))
    · rw [pt_hl, if_neg e] at h
      exact br_f e (nm_r (nI_1 x) (ih (x + 1) n _ (by omega) (by omega) h))
theorem px_holes (hc : c ≤ 16) (h : post (pt_hl ma fi c 4096 0 0)) : wpX_holes post (nI c, b, w, ma, fi, fc, lo, si, sg) := ⟨4097, px_hl_l hc 4096 0 4097 0 (by omega) (by omega) h⟩
theorem px_nh_l (hc : c ≤ 16) : ∀ d x n, x + d = 4096 → d < n → post (pt_nh ma fi c d x) → wX_nextHole_12 post (nI c) b w ma fi fc lo si sg n (nI x) := by
  intro d
  induction d with
  | zero =>
    intro x n hp hn h
    obtain ⟨n, rfl⟩ : ∃ k, n = k + 1 := ⟨n - 1, by omega⟩
    exact br_t (nI_le (a := 4096) (by omega) (by omega)) h
  | succ d ih =>
    intro x n hp hn h
    obtain ⟨n, rfl⟩ : ∃ k, n = k + 1 := ⟨n - 1, by omega⟩
    refine br_f (nI_ge (b := 4096) (by omega) (by decide)) (px_pc hc  ?_)
    by_cases e : pt_dec ma fi (nI x) c 0 = -8
    · rw [pt_nh, if_pos e] at h
      exact br_t e h
    · rw [pt_nh, if_neg e] at h
      exact br_f e (nm_r (nI_1 x) (ih (x + 1) n (by omega) (by omega) h))
theorem px_nextHole_t {x : Nat} (hc : c ≤ 16) (hx : x < 4096) (h : post (pt_nh ma fi c (4096 - x) x)) : wpX_nextHole post (nI c, b, w, ma, fi, fc, lo, si, sg) (nI x) := by
  unfold wpX_nextHole
  dsimp only
  exact px_isW_t hx (br_f pt_10 ⟨4097, px_nh_l hc (4096 - x) x 4097 (by omega) (by omega) h⟩)
theorem px_nextHole_f {x : Int32} (hx : x < 0 ∨ nI 4096 ≤ x) (h : post (-7)) : wpX_nextHole post (nI c, b, w, ma, fi, fc, lo, si, sg) x := by
  unfold wpX_nextHole
  dsimp only
  exact px_isW_f hx (br_t rfl h)
theorem px_cv_l {p t : Nat} (hp16 : p < 16) (ht : t < 4096) : ∀ d x n a, t + 1 - x = d → x ≤ 4096 → d < n → post (pt_cv (ma p) (fi p) d x a) → wX_covered_34 post (nI p) (nI t) (nI c) b w ma fi fc lo si sg n a (nI x) := by
  intro d
  induction d with
  | zero =>
    intro x n a hp hx hn h
    obtain ⟨n, rfl⟩ : ∃ k, n = k + 1 := ⟨n - 1, by omega⟩
    exact br_t (nI_lt (by omega) (by omega)) h
  | succ d ih =>
    intro x n a hp hx hn h
    obtain ⟨n, rfl⟩ : ∃ k, n = k + 1 := ⟨n - 1, by omega⟩
    refine br_f (nI_nlt (by omega) (by omega)) ?_
    by_cases e : nI x &&& ma p = fi p
    · rw [pt_cv, if_pos e] at h
      exact px_cov_t hp16 e (br_f pt_10 (nm_e (nm_r (nI_1 x) (ih (x + 1) n _ (by omega) (by omega) (by omega) h))))
    · rw [pt_cv, if_neg e] at h
      exact px_cov_f hp16 e (br_t rfl (nm_r (nI_1 x) (ih (x + 1) n _ (by omega) (by omega) (by omega) h)))
theorem px_nw_l {p : Nat} (hp16 : p < 16) : ∀ d x n, x + d = 4096 → d < n → post (pt_nw (ma p) (fi p) d x) → wX_nextWord_23 post (nI p) (nI c) b w ma fi fc lo si sg n (nI x) := by
  intro d
  induction d with
  | zero =>
    intro x n hp hn h
    obtain ⟨n, rfl⟩ : ∃ k, n = k + 1 := ⟨n - 1, by omega⟩
    exact br_t (nI_le (a := 4096) (by omega) (by omega)) h
  | succ d ih =>
    intro x n hp hn h
    obtain ⟨n, rfl⟩ : ∃ k, n = k + 1 := ⟨n - 1, by omega⟩
    refine br_f (nI_ge (b := 4096) (by omega) (by decide)) ?_
    by_cases e : nI x &&& ma p = fi p
    · rw [pt_nw, if_pos e] at h
      exact px_cov_t hp16 e (br_f pt_10 h)
    · rw [pt_nw, if_neg e] at h
      exact px_cov_f hp16 e (br_t rfl (nm_r (nI_1 x) (ih (x + 1) n (by omega) (by omega) h)))
theorem px_nextWord_t {p x : Nat} (hc : c ≤ 16) (hp : p < c) (hx : x < 4096) (h : post (pt_nw (ma p) (fi p) (4096 - x) x)) : wpX_nextWord post (nI c, b, w, ma, fi, fc, lo, si, sg) (nI p) (nI x) := by
  unfold wpX_nextWord
  dsimp only
  exact px_isP_t hp hc (br_f pt_10 (px_isW_t hx (br_f pt_10 ⟨4097, px_nw_l (by omega) (4096 - x) x 4097 (by omega) (by omega) h⟩)))
theorem px_nextWord_p {y x : Int32} (hy : y < 0 ∨ nI c ≤ y) (h : post (-4)) : wpX_nextWord post (nI c, b, w, ma, fi, fc, lo, si, sg) y x := by
  unfold wpX_nextWord
  dsimp only
  exact px_isP_f hy (br_t rfl h)
theorem px_nextWord_f {p : Nat} {x : Int32} (hc : c ≤ 16) (hp : p < c) (hx : x < 0 ∨ nI 4096 ≤ x) (h : post (-7)) : wpX_nextWord post (nI c, b, w, ma, fi, fc, lo, si, sg) (nI p) x := by
  unfold wpX_nextWord
  dsimp only
  exact px_isP_t hp hc (br_f pt_10 (px_isW_f hx (br_t rfl h)))
theorem px_covered_p {y x t : Int32} (hy : y < 0 ∨ nI c ≤ y) (h : post (-4)) : wpX_covered post (nI c, b, w, ma, fi, fc, lo, si, sg) y x t := by
  unfold wpX_covered
  dsimp only
  exact px_isP_f hy (br_t rfl h)
theorem px_covered_f {p : Nat} {x t : Int32} (hc : c ≤ 16) (hp : p < c) (hx : x < 0 ∨ nI 4096 ≤ x) (h : post (-7)) : wpX_covered post (nI c, b, w, ma, fi, fc, lo, si, sg) (nI p) x t := by
  unfold wpX_covered
  dsimp only
  exact px_isP_t hp hc (br_f pt_10 (px_isW_f hx (br_t rfl h)))
theorem px_covered_g {p x : Nat} {t : Int32} (hc : c ≤ 16) (hp : p < c) (hx : x < 4096) (ht : t < 0 ∨ nI 4096 ≤ t) (h : post (-7)) : wpX_covered post (nI c, b, w, ma, fi, fc, lo, si, sg) (nI p) (nI x) t := by
  unfold wpX_covered
  dsimp only
  exact px_isP_t hp hc (br_f pt_10 (px_isW_t hx (br_f pt_10 (px_isW_f ht (br_t rfl h)))))
theorem py_hl_l (hc : c ≤ 16) : ∀ d x n a, x + d = 4096 → d < n → post (pt_hl ma fi c d x a) → wY_holes_4 post (nI c) b w ma fi fc lo si sg n a (nI x) := by
  intro d
  induction d with
  | zero =>
    intro x n a hp hn h
    obtain ⟨n, rfl⟩ : ∃ k, n = k + 1 := ⟨n - 1, by omega⟩
    exact br_t (nI_le (a := 4096) (by omega) (by omega)) h
  | succ d ih =>
    intro x n a hp hn h
    obtain ⟨n, rfl⟩ : ∃ k, n = k + 1 := ⟨n - 1, by omega⟩
    refine br_f (nI_ge (b := 4096) (by omega) (by decide)) (py_pc hc (by omega) ?_)
    by_cases e : pt_dec ma fi (nI x) c 0 = -8
    · rw [pt_hl, if_pos e] at h
      exact br_t e (nm_e (nm_r (nI_1 x) (ih (x + 1) n _ (by omega) (by omega) h)))
    · rw [pt_hl, if_neg e] at h
      exact br_f e (nm_r (nI_1 x) (ih (x + 1) n _ (by omega) (by omega) h))
theorem py_holes (hc : c ≤ 16) (h : post (pt_hl ma fi c 4096 0 0)) : wpY_holes post (nI c, b, w, ma, fi, fc, lo, si, sg) := ⟨4097, py_hl_l hc 4096 0 4097 0 (by omega) (by omega) h⟩
theorem py_nh_l (hc : c ≤ 16) : ∀ d x n, x + d = 4096 → d < n → post (pt_nh ma fi c d x) → wY_nextHole_13 post (nI c) b w ma fi fc lo si sg n (nI x) := by
  intro d
  induction d with
  | zero =>
    intro x n hp hn h
    obtain ⟨n, rfl⟩ : ∃ k, n = k + 1 := ⟨n - 1, by omega⟩
    exact br_t (nI_le (a := 4096) (by omega) (by omega)) h
  | succ d ih =>
    intro x n hp hn h
    obtain ⟨n, rfl⟩ : ∃ k, n = k + 1 := ⟨n - 1, by omega⟩
    refine br_f (nI_ge (b := 4096) (by omega) (by decide)) (py_pc hc (by omega) ?_)
    by_cases e : pt_dec ma fi (nI x) c 0 = -8
    · rw [pt_nh, if_pos e] at h
      exact br_t e h
    · rw [pt_nh, if_neg e] at h
      exact br_f e (nm_r (nI_1 x) (ih (x + 1) n (by omega) (by omega) h))
theorem py_nextHole_t {x : Nat} (hc : c ≤ 16) (hx : x < 4096) (h : post (pt_nh ma fi c (4096 - x) x)) : wpY_nextHole post (nI c, b, w, ma, fi, fc, lo, si, sg) (nI x) := by
  unfold wpY_nextHole
  dsimp only
  exact py_isW_t hx (br_f pt_10 ⟨4097, py_nh_l hc (4096 - x) x 4097 (by omega) (by omega) h⟩)
theorem py_nextHole_f {x : Int32} (hx : x < 0 ∨ nI 4096 ≤ x) (h : post (-7)) : wpY_nextHole post (nI c, b, w, ma, fi, fc, lo, si, sg) x := by
  unfold wpY_nextHole
  dsimp only
  exact py_isW_f hx (br_t rfl h)
theorem py_cv_l {p t : Nat} (hp16 : p < 16) (ht : t < 4096) : ∀ d x n a, t + 1 - x = d → x ≤ 4096 → d < n → post (pt_cv (ma p) (fi p) d x a) → wY_covered_43 post (nI p) (nI t) (nI c) b w ma fi fc lo si sg n a (nI x) := by
  intro d
  induction d with
  | zero =>
    intro x n a hp hx hn h
    obtain ⟨n, rfl⟩ : ∃ k, n = k + 1 := ⟨n - 1, by omega⟩
    exact br_t (nI_lt (by omega) (by omega)) h
  | succ d ih =>
    intro x n a hp hx hn h
    obtain ⟨n, rfl⟩ : ∃ k, n = k + 1 := ⟨n - 1, by omega⟩
    refine br_f (nI_nlt (by omega) (by omega)) ?_
    by_cases e : nI x &&& ma p = fi p
    · rw [pt_cv, if_pos e] at h
      exact py_cov_t hp16 e (br_f pt_10 (nm_e (nm_r (nI_1 x) (ih (x + 1) n _ (by omega) (by omega) (by omega) h))))
    · rw [pt_cv, if_neg e] at h
      exact py_cov_f hp16 e (br_t rfl (nm_r (nI_1 x) (ih (x + 1) n _ (by omega) (by omega) (by omega) h)))
theorem py_nw_l {p : Nat} (hp16 : p < 16) : ∀ d x n, x + d = 4096 → d < n → post (pt_nw (ma p) (fi p) d x) → wY_nextWord_24 post (nI p) (nI c) b w ma fi fc lo si sg n (nI x) := by
  intro d
  induction d with
  | zero =>
    intro x n hp hn h
    obtain ⟨n, rfl⟩ : ∃ k, n = k + 1 := ⟨n - 1, by omega⟩
    exact br_t (nI_le (a := 4096) (by omega) (by omega)) h
  | succ d ih =>
    intro x n hp hn h
    obtain ⟨n, rfl⟩ : ∃ k, n = k + 1 := ⟨n - 1, by omega⟩
    refine br_f (nI_ge (b := 4096) (by omega) (by decide)) ?_
    by_cases e : nI x &&& ma p = fi p
    · rw [pt_nw, if_pos e] at h
      exact py_cov_t hp16 e (br_f pt_10 h)
    · rw [pt_nw, if_neg e] at h
      exact py_cov_f hp16 e (br_t rfl (nm_r (nI_1 x) (ih (x + 1) n (by omega) (by omega) h)))
theorem py_nextWord_t {p x : Nat} (hc : c ≤ 16) (hp : p < c) (hx : x < 4096) (h : post (pt_nw (ma p) (fi p) (4096 - x) x)) : wpY_nextWord post (nI c, b, w, ma, fi, fc, lo, si, sg) (nI p) (nI x) := by
  unfold wpY_nextWord
  dsimp only
  exact py_isP_t hp hc (br_f pt_10 (py_isW_t hx (br_f pt_10 ⟨4097, py_nw_l (by omega) (4096 - x) x 4097 (by omega) (by omega) h⟩)))
theorem py_nextWord_p {y x : Int32} (hy : y < 0 ∨ nI c ≤ y) (h : post (-4)) : wpY_nextWord post (nI c, b, w, ma, fi, fc, lo, si, sg) y x := by
  unfold wpY_nextWord
  dsimp only
  exact py_isP_f hy (br_t rfl h)
theorem py_nextWord_f {p : Nat} {x : Int32} (hc : c ≤ 16) (hp : p < c) (hx : x < 0 ∨ nI 4096 ≤ x) (h : post (-7)) : wpY_nextWord post (nI c, b, w, ma, fi, fc, lo, si, sg) (nI p) x := by
  unfold wpY_nextWord
  dsimp only
  exact py_isP_t hp hc (br_f pt_10 (py_isW_f hx (br_t rfl h)))
theorem py_covered_p {y x t : Int32} (hy : y < 0 ∨ nI c ≤ y) (h : post (-4)) : wpY_covered post (nI c, b, w, ma, fi, fc, lo, si, sg) y x t := by
  unfold wpY_covered
  dsimp only
  exact py_isP_f hy (br_t rfl h)
theorem py_covered_f {p : Nat} {x t : Int32} (hc : c ≤ 16) (hp : p < c) (hx : x < 0 ∨ nI 4096 ≤ x) (h : post (-7)) : wpY_covered post (nI c, b, w, ma, fi, fc, lo, si, sg) (nI p) x t := by
  unfold wpY_covered
  dsimp only
  exact py_isP_t hp hc (br_f pt_10 (py_isW_f hx (br_t rfl h)))
theorem py_covered_g {p x : Nat} {t : Int32} (hc : c ≤ 16) (hp : p < c) (hx : x < 4096) (ht : t < 0 ∨ nI 4096 ≤ t) (h : post (-7)) : wpY_covered post (nI c, b, w, ma, fi, fc, lo, si, sg) (nI p) (nI x) t := by
  unfold wpY_covered
  dsimp only
  exact py_isP_t hp hc (br_f pt_10 (py_isW_t hx (br_f pt_10 (py_isW_f ht (br_t rfl h)))))
theorem px_covered_t {p x t : Nat} (hc : c ≤ 16) (hp : p < c) (hx : x < 4096) (ht : t < 4096) (h : post (pt_cv (ma p) (fi p) (t + 1 - x) x 0)) : wpX_covered post (nI c, b, w, ma, fi, fc, lo, si, sg) (nI p) (nI x) (nI t) := by
  unfold wpX_covered
  dsimp only
  exact px_isP_t hp hc (br_f pt_10 (px_isW_t hx (br_f pt_10 (px_isW_t ht (br_f pt_10 ⟨4098, px_cv_l (by omega) ht (t + 1 - x) x 4098 0 rfl (by omega) (by omega) h⟩)))))
theorem py_covered_t {p x t : Nat} (hc : c ≤ 16) (hp : p < c) (hx : x < 4096) (ht : t < 4096) (h : post (pt_cv (ma p) (fi p) (t + 1 - x) x 0)) : wpY_covered post (nI c, b, w, ma, fi, fc, lo, si, sg) (nI p) (nI x) (nI t) := by
  unfold wpY_covered
  dsimp only
  refine py_isP_t hp hc (br_f pt_10 (py_isW_t hx (br_f pt_10 (py_isW_t ht (br_f pt_10 (br_c (fun _ => ⟨4098, py_cv_l (by omega) ht (t + 1 - x) x 4098 0 rfl (by omega) (by omega) h⟩) (fun z => ?_)))))))
  rw [nI_leI (by omega) (by omega)] at z
  rw [show t + 1 - x = 0 from by omega] at h
  exact h
end PTA
