/-- what was begun: nothing (each side's own mark), or the same pattern of the table -/
def pt_Bg (c : Nat) (bX bY : Int32) : Prop := (bX = -8 ∧ bY = -1) ∨ ∃ j, j < c ∧ bX = nI j ∧ bY = nI j
/-- the two tables are the same; the begun pattern is, where there is one -/
def i_Rel (_ : Nat) (u : SX) (v : SY) : Prop := ∃ (c : Nat) (bX bY w : Int32) (ma fi fc lo si sg : Nat → Int32), u = (nI c, bX, w, ma, fi, fc, lo, si, sg) ∧ v = (nI c, bY, w, ma, fi, fc, lo, si, sg) ∧ c ≤ 16 ∧ pt_Bg c bX bY ∧ pt_Tab ma fi ∧ pt_Fld fc lo si
theorem pt_mk {k c : Nat} {bX bY w : Int32} {ma fi fc lo si sg : Nat → Int32} (hc : c ≤ 16) (hb : pt_Bg c bX bY) (ht : pt_Tab ma fi) (hf : pt_Fld fc lo si) : i_Rel k (nI c, bX, w, ma, fi, fc, lo, si, sg) (nI c, bY, w, ma, fi, fc, lo, si, sg) := ⟨c, bX, bY, w, ma, fi, fc, lo, si, sg, rfl, rfl, hc, hb, ht, hf⟩
theorem i_up {k : Nat} {u : SX} {v : SY} (h : i_Rel k u v) : i_Rel (k + 5) u v := h
theorem i_vc0 : wpX_init (fun u => wpY_init (fun v => i_Rel 0 u v)) := by
  exact pt_mk (k := 0) (c := 0) (by omega) (Or.inl ⟨rfl, rfl⟩) (fun p _ => ⟨0, 0, by decide, by decide, by decide, rfl, rfl⟩) (fun p _ => ⟨0, by decide, rfl, fun k hk => by omega⟩)
theorem pt_or3 {x : Int32} {n : Nat} (hn : n < 2 ^ 31) : (x < 0 ∨ nI n ≤ x) ∨ ∃ j, j < n ∧ x = nI j := by
  rcases pk_ix x hn with h | h | h
  · exact Or.inl (Or.inl h)
  · exact Or.inl (Or.inr h)
  · exact Or.inr h
theorem i_vc_add {k : Nat} {u : SX} {v : SY} (I : i_Rel k u v) (hk : k + 5 ≤ 2560) (v1 : Int32) (v2 : Int32) : wpX_add (fun r u' => wpY_add (fun r' v' => r' = r ∧ i_Rel (k + 5) u' v') v v1 v2) u v1 v2 := by
  obtain ⟨c, bX, bY, w, ma, fi, fc, lo, si, sg, rfl, rfl, hc, hb, ht, hf⟩ := I
  rcases pt_or3 (x := v1) (n := 4096) (by decide) with h | ⟨M, hM, rfl⟩
  · exact px_add_m h (py_add_m h ⟨rfl, pt_mk hc hb ht hf⟩)
  rcases pt_or3 (x := v2) (n := 4096) (by decide) with h | ⟨B, hB, rfl⟩
  · exact px_add_b hM h (py_add_b hM h ⟨rfl, pt_mk hc hb ht hf⟩)
  by_cases e : nI B &&& (nI M ^^^ (-1)) = 0
  · by_cases h16 : c = 16
    · exact px_add_u hM hB e h16 (py_add_u hM hB e h16 ⟨rfl, pt_mk hc hb ht hf⟩)
    · have hc16 : c < 16 := by omega
      have hs : B &&& M = B := pt_sub hB e
      have ov := pt_ovl hc hB hs ht
      refine px_add_k hM hB e hc16 (fun q => py_add_k hM hB e hc16 (fun _ => ⟨rfl, pt_mk hc hb ht hf⟩) (fun n => absurd (ov.mp q) n)) (fun q => py_add_k hM hB e hc16 (fun y => absurd (ov.mpr y) q) (fun _ => ⟨rfl, pt_mk (by omega) ?_ ?_ ?_⟩))
      · rcases hb with hb | ⟨j, hj, e1, e2⟩
        · exact Or.inl hb
        · exact Or.inr ⟨j, by omega, e1, e2⟩
      · intro p hp
        by_cases z : p = c
        · subst z
          exact ⟨M, B, hM, hB, hs, pk_us, pk_us⟩
        · rw [pk_un z, pk_un z]
          exact ht p hp
      · intro p hp
        by_cases z : p = c
        · subst z
          exact ⟨0, by decide, pk_us, fun k hk => by omega⟩
        · rw [pk_un z]
          exact hf p hp
  · exact px_add_s hM hB e (py_add_s hM hB e ⟨rfl, pt_mk hc hb ht hf⟩)
theorem i_vc_field {k : Nat} {u : SX} {v : SY} (I : i_Rel k u v) (hk : k + 5 ≤ 2560) (v1 : Int32) (v2 : Int32) (v3 : Int32) (v4 : Int32) : wpX_field (fun r u' => wpY_field (fun r' v' => r' = r ∧ i_Rel (k + 5) u' v') v v1 v2 v3 (lw_bz v4)) u v1 v2 v3 (lw_bz v4) := by
  obtain ⟨c, bX, bY, w, ma, fi, fc, lo, si, sg, rfl, rfl, hc, hb, ht, hf⟩ := I
  rcases pt_or3 (x := v1) (n := c) (by omega) with h | ⟨p, hp, rfl⟩
  · exact px_field_p h (py_field_p h ⟨rfl, pt_mk hc hb ht hf⟩)
  obtain ⟨M, F, hM, hF, hFM, eM, eF⟩ := ht p (by omega)
  obtain ⟨K, hK, eK, hKf⟩ := hf p (by omega)
  refine px_field hc hp eM hM eK hK
    (fun n => py_field hc hp eM hM eK hK (fun _ => ⟨rfl, pt_mk hc hb ht hf⟩) (fun o => absurd o n) (fun o => absurd o n))
    (fun o e3 => py_field hc hp eM hM eK hK (fun n => absurd o n) (fun _ _ => ⟨rfl, pt_mk hc hb ht hf⟩) (fun _ q => absurd e3 (by omega)))
    (fun o l3 => py_field hc hp eM hM eK hK (fun n => absurd o n) (fun _ q => absurd q (by omega)) (fun _ _ => ⟨rfl, pt_mk hc hb ht ?_⟩))
  obtain ⟨L, Z, rfl, rfl, hZ1, hLZ, _⟩ := o
  intro p' hp'
  by_cases z : p' = p
  · subst z
    refine ⟨K + 1, by omega, pk_us, fun k' hk' => ?_⟩
    by_cases y : k' = K
    · subst y
      exact ⟨L, Z, hZ1, hLZ, pk_us, pk_us⟩
    · rw [pk_un (by omega), pk_un (by omega)]
      exact hKf k' (by omega)
  · obtain ⟨K', hK', eK', hKf'⟩ := hf p' hp'
    refine ⟨K', hK', by rw [pk_un z]; exact eK', fun k' hk' => ?_⟩
    rw [pk_un (by omega), pk_un (by omega)]
    exact hKf' k' hk'
theorem i_vc_dropLast {k : Nat} {u : SX} {v : SY} (I : i_Rel k u v) (hk : k + 5 ≤ 2560) : wpX_dropLast (fun r u' => wpY_dropLast (fun r' v' => r' = r ∧ i_Rel (k + 5) u' v') v) u := by
  obtain ⟨c, bX, bY, w, ma, fi, fc, lo, si, sg, rfl, rfl, hc, hb, ht, hf⟩ := I
  by_cases h0 : c = 0
  · subst h0
    exact br_t rfl (br_t rfl ⟨rfl, pt_mk hc hb ht hf⟩)
  · have n0 : ¬ nI c = 0 := nI_ne0 (by omega) (by omega)
    have ep : nI c - 1 = nI (c - 1) := pt_pred (by omega)
    have hn := pt_neg (n := c - 1) (by omega)
    refine br_f n0 (nm_r ep ?_)
    rcases hb with ⟨rfl, rfl⟩ | ⟨j, hj, rfl, rfl⟩
    · exact br_f (fun z => hn.1 z.symm) (br_f n0 (nm_r ep (br_f (fun z => hn.2 z.symm) ⟨rfl, pt_mk (by omega) (Or.inl ⟨rfl, rfl⟩) ht hf⟩)))
    · by_cases z : j = c - 1
      · have z2 : nI j = nI (c - 1) := by rw [z]
        exact br_t z2 (br_f n0 (nm_r ep (br_t z2 ⟨rfl, pt_mk (by omega) (Or.inl ⟨rfl, rfl⟩) ht hf⟩)))
      · have z2 : ¬ nI j = nI (c - 1) := fun y => z ((nI_eq (by omega) (by omega)).mp y)
        exact br_f z2 (br_f n0 (nm_r ep (br_f z2 ⟨rfl, pt_mk (by omega) (Or.inr ⟨j, by omega, rfl, rfl⟩) ht hf⟩)))
theorem i_vc_begin {k : Nat} {u : SX} {v : SY} (I : i_Rel k u v) (hk : k + 5 ≤ 2560) (v1 : Int32) : wpX_begin (fun r u' => wpY_begin (fun r' v' => r' = r ∧ i_Rel (k + 5) u' v') v v1) u v1 := by
  obtain ⟨c, bX, bY, w, ma, fi, fc, lo, si, sg, rfl, rfl, hc, hb, ht, hf⟩ := I
  rcases pt_or3 (x := v1) (n := c) (by omega) with h | ⟨p, hp, rfl⟩
  · exact px_begin_f h (py_begin_f h ⟨rfl, pt_mk hc hb ht hf⟩)
  · exact px_begin_t hc hp (py_begin_t hc hp ⟨rfl, pt_mk hc (Or.inr ⟨p, hp, rfl, rfl⟩) ht hf⟩)
theorem i_vc_operand {k : Nat} {u : SX} {v : SY} (I : i_Rel k u v) (hk : k + 5 ≤ 2560) (v1 : Int32) (v2 : Int32) : wpX_operand (fun r u' => wpY_operand (fun r' v' => r' = r ∧ i_Rel (k + 5) u' v') v v1 v2) u v1 v2 := by
  obtain ⟨c, bX, bY, w, ma, fi, fc, lo, si, sg, rfl, rfl, hc, hb, ht, hf⟩ := I
  rcases hb with ⟨rfl, rfl⟩ | ⟨j, hj, rfl, rfl⟩
  · exact px_op_n pt_n8 (py_op_n pt_n1 ⟨rfl, pt_mk hc (Or.inl ⟨rfl, rfl⟩) ht hf⟩)
  have hb : pt_Bg c (nI j) (nI j) := Or.inr ⟨j, hj, rfl, rfl⟩
  obtain ⟨K, hK, eK, hKf⟩ := hf j (by omega)
  rcases pt_or3 (x := v1) (n := K) (by omega) with h | ⟨q, hq, rfl⟩
  · exact px_op_f hc hj eK h (py_op_f hc hj eK h ⟨rfl, pt_mk hc hb ht hf⟩)
  obtain ⟨L, Z, h1, hLZ, eL, eZ⟩ := hKf q hq
  refine px_op_k hc hj eK hK hq eL eZ h1 hLZ
    (fun n => py_op_k hc hj eK hK hq eL eZ h1 hLZ (fun _ => ⟨rfl, pt_mk hc hb ht hf⟩) (fun t ht2 e => absurd e (n t ht2)))
    (fun t ht2 e => py_op_k hc hj eK hK hq eL eZ h1 hLZ (fun n => absurd e (n t ht2)) (fun t' ht3 e' => ?_))
  obtain rfl : t' = t := pt_rdu (by omega) ht3 ht2 (e'.trans e.symm)
  exact ⟨rfl, pt_mk hc hb ht hf⟩
theorem i_vc_decode {k : Nat} {u : SX} {v : SY} (I : i_Rel k u v) (hk : k + 5 ≤ 2560) (v1 : Int32) : wpX_decode (fun r => wpY_decode (fun r' => r' = r ∧ i_Rel (k + 5) u v) v v1) u v1 := by
  obtain ⟨c, bX, bY, w, ma, fi, fc, lo, si, sg, rfl, rfl, hc, hb, ht, hf⟩ := I
  have R : i_Rel (k + 5) (nI c, bX, w, ma, fi, fc, lo, si, sg) (nI c, bY, w, ma, fi, fc, lo, si, sg) := pt_mk hc hb ht hf
  rcases pt_or3 (x := v1) (n := 4096) (by decide) with h | ⟨x, hx, rfl⟩
  · exact px_dec_f h (py_dec_f h ⟨rfl, R⟩)
  · exact px_dec_t hc hx (py_pc hc hx ⟨rfl, R⟩)
theorem i_vc_value {k : Nat} {u : SX} {v : SY} (I : i_Rel k u v) (hk : k + 5 ≤ 2560) (v1 : Int32) (v2 : Int32) : wpX_value (fun r => wpY_value (fun r' => r' = r ∧ i_Rel (k + 5) u v) v v1 v2) u v1 v2 := by
  obtain ⟨c, bX, bY, w, ma, fi, fc, lo, si, sg, rfl, rfl, hc, hb, ht, hf⟩ := I
  have R : i_Rel (k + 5) (nI c, bX, w, ma, fi, fc, lo, si, sg) (nI c, bY, w, ma, fi, fc, lo, si, sg) := pt_mk hc hb ht hf
  rcases pt_or3 (x := v1) (n := 4096) (by decide) with h | ⟨x, hx, rfl⟩
  · exact px_va_w h (py_va_w h ⟨rfl, R⟩)
  rcases pt_dec_or (ma := ma) (fi := fi) (x := nI x) c 0 with ⟨e, _⟩ | ⟨j, _, hj, e, _⟩
  · exact px_va_n hc hx e (py_va_n hc hx e ⟨rfl, R⟩)
  have hj2 : j < c := by omega
  obtain ⟨K, hK, eK, hKf⟩ := hf j (by omega)
  rcases pt_or3 (x := v2) (n := K) (by omega) with h | ⟨q, hq, rfl⟩
  · exact px_va_f hc hx hj2 e eK h (py_va_f hc hx hj2 e eK h ⟨rfl, R⟩)
  obtain ⟨L, Z, h1, hLZ, eL, eZ⟩ := hKf q hq
  exact px_va_k hc hx hj2 e eK hK hq eL eZ h1 hLZ (py_va_k hc hx hj2 e eK hK hq eL eZ h1 hLZ ⟨rfl, R⟩)
theorem i_vc_holes {k : Nat} {u : SX} {v : SY} (I : i_Rel k u v) (hk : k + 5 ≤ 2560) : wpX_holes (fun r => wpY_holes (fun r' => r' = r ∧ i_Rel (k + 5) u v) v) u := by
  obtain ⟨c, bX, bY, w, ma, fi, fc, lo, si, sg, rfl, rfl, hc, hb, ht, hf⟩ := I
  have R : i_Rel (k + 5) (nI c, bX, w, ma, fi, fc, lo, si, sg) (nI c, bY, w, ma, fi, fc, lo, si, sg) := pt_mk hc hb ht hf
  exact px_holes hc (py_holes hc ⟨rfl, R⟩)
theorem i_vc_nextHole {k : Nat} {u : SX} {v : SY} (I : i_Rel k u v) (hk : k + 5 ≤ 2560) (v1 : Int32) : wpX_nextHole (fun r => wpY_nextHole (fun r' => r' = r ∧ i_Rel (k + 5) u v) v v1) u v1 := by
  obtain ⟨c, bX, bY, w, ma, fi, fc, lo, si, sg, rfl, rfl, hc, hb, ht, hf⟩ := I
  have R : i_Rel (k + 5) (nI c, bX, w, ma, fi, fc, lo, si, sg) (nI c, bY, w, ma, fi, fc, lo, si, sg) := pt_mk hc hb ht hf
  rcases pt_or3 (x := v1) (n := 4096) (by decide) with h | ⟨x, hx, rfl⟩
  · exact px_nextHole_f h (py_nextHole_f h ⟨rfl, R⟩)
  · exact px_nextHole_t hc hx (py_nextHole_t hc hx ⟨rfl, R⟩)
theorem i_vc_covered {k : Nat} {u : SX} {v : SY} (I : i_Rel k u v) (hk : k + 5 ≤ 2560) (v1 : Int32) (v2 : Int32) (v3 : Int32) : wpX_covered (fun r => wpY_covered (fun r' => r' = r ∧ i_Rel (k + 5) u v) v v1 v2 v3) u v1 v2 v3 := by
  obtain ⟨c, bX, bY, w, ma, fi, fc, lo, si, sg, rfl, rfl, hc, hb, ht, hf⟩ := I
  have R : i_Rel (k + 5) (nI c, bX, w, ma, fi, fc, lo, si, sg) (nI c, bY, w, ma, fi, fc, lo, si, sg) := pt_mk hc hb ht hf
  rcases pt_or3 (x := v1) (n := c) (by omega) with h | ⟨p, hp, rfl⟩
  · exact px_covered_p h (py_covered_p h ⟨rfl, R⟩)
  rcases pt_or3 (x := v2) (n := 4096) (by decide) with h | ⟨x, hx, rfl⟩
  · exact px_covered_f hc hp h (py_covered_f hc hp h ⟨rfl, R⟩)
  rcases pt_or3 (x := v3) (n := 4096) (by decide) with h | ⟨t, h2, rfl⟩
  · exact px_covered_g hc hp hx h (py_covered_g hc hp hx h ⟨rfl, R⟩)
  · exact px_covered_t hc hp hx h2 (py_covered_t hc hp hx h2 ⟨rfl, R⟩)
theorem i_vc_nextWord {k : Nat} {u : SX} {v : SY} (I : i_Rel k u v) (hk : k + 5 ≤ 2560) (v1 : Int32) (v2 : Int32) : wpX_nextWord (fun r => wpY_nextWord (fun r' => r' = r ∧ i_Rel (k + 5) u v) v v1 v2) u v1 v2 := by
  obtain ⟨c, bX, bY, w, ma, fi, fc, lo, si, sg, rfl, rfl, hc, hb, ht, hf⟩ := I
  have R : i_Rel (k + 5) (nI c, bX, w, ma, fi, fc, lo, si, sg) (nI c, bY, w, ma, fi, fc, lo, si, sg) := pt_mk hc hb ht hf
  rcases pt_or3 (x := v1) (n := c) (by omega) with h | ⟨p, hp, rfl⟩
  · exact px_nextWord_p h (py_nextWord_p h ⟨rfl, R⟩)
  rcases pt_or3 (x := v2) (n := 4096) (by decide) with h | ⟨x, hx, rfl⟩
  · exact px_nextWord_f hc hp h (py_nextWord_f hc hp h ⟨rfl, R⟩)
  · exact px_nextWord_t hc hp hx (py_nextWord_t hc hp hx ⟨rfl, R⟩)
