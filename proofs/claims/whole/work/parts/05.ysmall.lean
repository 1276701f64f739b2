-- the reference's small methods
theorem cy_d : ∀ p, p < 432 → cq_y p / 72 = cq_a p ∧ cq_y p / 12 % 6 = cq_b p ∧ cq_y p / 2 % 6 = cq_t p ∧ cq_y p % 2 = p / 216 := by decide +kernel
theorem cy_eA {p : Nat} (h : p < 432) : nI (cq_y p) / 72 = nI (cq_a p) := by
  have hy := cq_ylt p h
  have e := pk_div (a := cq_y p) (d := 72) (by omega) (by omega) (by omega)
  rw [(cy_d p h).1] at e
  exact e
theorem cy_eB {p : Nat} (h : p < 432) : nI (cq_y p) / 12 - nI (cq_y p) / 12 / 6 * 6 = nI (cq_b p) := by
  have e := cx_dr (d := 12) (cq_ylt p h) (by omega) (by omega)
  rw [(cy_d p h).2.1] at e
  exact e
theorem cy_eT {p : Nat} (h : p < 432) : nI (cq_y p) / 2 - nI (cq_y p) / 2 / 6 * 6 = nI (cq_t p) := by
  have e := cx_dr (d := 2) (cq_ylt p h) (by omega) (by omega)
  rw [(cy_d p h).2.2.1] at e
  exact e
theorem cy_eM {p : Nat} (h : p < 432) : nI (cq_y p) - nI (cq_y p) / 2 * 2 = nI (p / 216) := by
  have hy := cq_ylt p h
  have e := pk_rem (a := cq_y p) (d := 2) (by omega) (by omega) (by omega)
  rw [(cy_d p h).2.2.2] at e
  exact e
section
variable {ws pl kn : Int32} {D E bW bL : Nat → Int32}
theorem cy_badn {post : Int32 → Prop} {v : Int32} (h : v < 0 ∨ nI 6 ≤ v) (k : post 1) : wpY_bad post (ws, pl, kn, D, E, bW, bL) v := by
  by_cases z : v < 0
  · exact br_t z k
  · exact br_f z (br_f (fun l => absurd (Int32.le_trans (h.resolve_left z) l) (by decide)) k)
theorem cy_bad {post : Int32 → Prop} {j : Nat} (h : j < 6) (k : post 0) : wpY_bad post (ws, pl, kn, D, E, bW, bL) (nI j) :=
  br_f (nI_pos (by omega)) (br_t (nI_le (b := 5) (by omega) (by decide)) k)
theorem cy_nu {post : Int32 → Prop} {a b t m : Nat} (hm : m < 2) {f : Int32} (hf : f = nI m) (ha : a < 6) (hb : b < 6) (ht : t < 6) (k : post (nI (cq_y (cq_n a b t m)))) :
    wpY_number post (ws, pl, kn, D, E, bW, bL) (nI a) (nI b) (nI t) f := by
  have e : ((nI a * 6 + nI b) * 6 + nI t) * 2 = nI (((a * 6 + b) * 6 + t) * 2) := by
    rw [show (6 : Int32) = nI 6 from rfl, show (2 : Int32) = nI 2 from rfl, pk_mul, nI_add, pk_mul, nI_add, pk_mul]
  rw [cq_yn ha hb ht, ← nI_add] at k
  unfold wpY_number
  dsimp only
  rw [e]
  have hm' : m = 0 ∨ m = 1 := by omega
  rcases hm' with rfl | rfl
  · exact br_t hf k
  · exact br_f (by rw [hf]; decide) k
theorem cy_ov {post : Int32 → Prop} {p : Nat} (h : p < 432) (k : post (cq_W0 E p)) : wpY_over post (ws, pl, kn, D, E, bW, bL) (nI (cq_y p)) := by
  have ha := cq_al p
  have hb := cq_bl p
  have ht := cq_tl p
  unfold cq_W0 at k
  unfold wpY_over
  dsimp only
  refine ⟨by decide, by decide, nm_r (cy_eT h) ⟨by decide, ?_⟩⟩
  rw [cy_eA h, cy_eB h]
  refine pk_eq (cq_t p) (cq_a p) (fun e => ?_) (fun e => ⟨by decide, by decide, pk_eq (cq_t p) (cq_b p) (fun e' => ?_) (fun e' => ⟨pk_in (cq_t p) 6 ht, ?_⟩)⟩)
  · rw [if_pos (Or.inl e)] at k; exact k
  · rw [if_pos (Or.inr e')] at k; exact k
  · rw [if_neg (fun z => z.elim e e')] at k
    rw [nI_clamp (by omega)]
    refine br_c (fun z => ?_) (fun z => ?_)
    · rw [if_pos z] at k; exact k
    · rw [if_neg z] at k; exact k
theorem cy_mv {post : Int32 → Prop} {p : Nat} (h : p < 432) (k : post (cq_mv p)) : wpY_mover post (ws, pl, kn, D, E, bW, bL) (nI (cq_y p)) := by
  unfold wpY_mover
  dsimp only
  refine ⟨by decide, ?_⟩
  rw [cy_eM h]
  by_cases hp : 216 ≤ p
  · rw [show cq_mv p = 2 from if_pos hp] at k
    rw [show p / 216 = 1 by omega]
    exact br_t rfl k
  · rw [show cq_mv p = 1 from if_neg hp] at k
    rw [show p / 216 = 0 by omega]
    exact br_f (by decide) k
theorem cy_ix {a c : Nat} : nI a * 6 + nI c = nI (a * 6 + c) := by
  rw [show (6 : Int32) = nI 6 from rfl, pk_mul, nI_add]
theorem cy_af {post : Int32 → Prop} {p c : Nat} {g w : Int32} (hg : ws &&& 1 = 0 ↔ g = 0) (hw : ws &&& 2 = 0 ↔ w = 0) (h : p < 432) (hc : c < 13)
    (kn' : cq_A D g w p c = none → post (-1)) (ks : ∀ q, cq_A D g w p c = some q → post (nI (cq_y q))) :
    wpY_after post (ws, pl, kn, D, E, bW, bL) (nI (cq_y p)) (nI c) := by
  have ha := cq_al p
  have hb := cq_bl p
  have ht := cq_tl p
  have n0 : ¬ nI c < 0 := nI_pos (by omega)
  have n12 : nI c ≤ 12 := nI_le (b := 12) (by omega) (by decide)
  unfold wpY_after
  dsimp only
  refine ⟨by decide, nm_r (cy_eA h) ⟨by decide, by decide, nm_r (cy_eB h) ⟨by decide, by decide, nm_r (cy_eT h) ⟨by decide, ?_⟩⟩⟩⟩
  rw [cy_eM h]
  unfold cq_A at kn' ks
  by_cases hp : 216 ≤ p
  · rw [if_pos hp] at kn'
    simp only [if_pos hp] at ks
    rw [show p / 216 = 1 by omega]
    refine br_t rfl (br_f n0 (br_t n12 ?_))
    refine pk_eq c 12 (fun e => br_f (by decide) ?_) (fun e => br_f (by decide) ?_)
    · rw [if_pos e] at kn'
      simp only [if_pos e] at ks
      refine br_c (fun z => br_t rfl (kn' (if_pos (hw.mp z)))) (fun z => br_f (by decide) (br_f (by decide) ?_))
      exact cy_nu (m := 0) (by omega) rfl ha hb ht (ks _ (if_neg (fun y => z (hw.mpr y))))
    · rw [if_neg e] at kn'
      simp only [if_neg e] at ks
      refine pk_le 6 c (fun l => ?_) (fun l => ?_)
      · rw [if_neg (show ¬ c < 6 by omega)] at kn'
        exact kn' rfl
      · rw [if_pos l] at kn'
        simp only [if_pos l] at ks
        rw [cy_ix, nI_clamp (by omega)]
        refine ⟨vp_in_nI (by omega) (by omega), br_c (fun z => kn' (if_pos z)) (fun z => ?_)⟩
        exact cy_nu (m := 0) (by omega) rfl ha hb (by omega) (ks _ (if_neg z))
  · rw [if_neg hp] at kn'
    simp only [if_neg hp] at ks
    rw [show p / 216 = 0 by omega]
    refine br_f (by decide) (br_f n0 (br_t n12 ?_))
    refine pk_eq c 12 (fun e => br_t rfl ?_) (fun e => br_t rfl ?_)
    · rw [if_pos e] at kn'
      simp only [if_pos e] at ks
      refine br_c (fun z => br_t rfl (kn' (if_pos (hg.mp z)))) (fun z => br_f (by decide) (br_t rfl ?_))
      exact cy_nu (m := 1) (by omega) rfl ha hb ht (ks _ (if_neg (fun y => z (hg.mpr y))))
    · rw [if_neg e] at kn'
      simp only [if_neg e] at ks
      refine pk_le 6 c (fun l => ?_) (fun l => ?_)
      · have n6 : ¬ c < 6 := by omega
        have l12 : c < 12 := by omega
        rw [if_neg n6, if_pos l12] at kn'
        simp only [if_neg n6, if_pos l12] at ks
        have e1 : nI (cq_b p) * 6 + nI c - 6 = nI (cq_b p * 6 + (c - 6)) := by
          rw [cy_ix, show (6 : Int32) = nI 6 from rfl, pk_sub (by omega)]
          exact congrArg nI (by omega)
        have e2 : nI c - 6 = nI (c - 6) := pk_sub (b := 6) (by omega)
        rw [e1, nI_clamp (by omega), e2]
        refine ⟨vp_in_nI (by omega) (by omega), br_c (fun z => kn' (if_pos z)) (fun z => ?_)⟩
        exact cy_nu (m := 1) (by omega) rfl ha (by omega) ht (ks _ (if_neg z))
      · rw [if_pos l] at kn'
        simp only [if_pos l] at ks
        rw [cy_ix, nI_clamp (by omega)]
        refine ⟨vp_in_nI (by omega) (by omega), br_c (fun z => kn' (if_pos z)) (fun z => ?_)⟩
        exact cy_nu (m := 1) (by omega) rfl (by omega) hb ht (ks _ (if_neg z))
theorem cy_afx {post : Int32 → Prop} {p : Nat} {v : Int32} (h : p < 432) (hv : v < 0 ∨ nI 13 ≤ v) (k : post (-1)) :
    wpY_after post (ws, pl, kn, D, E, bW, bL) (nI (cq_y p)) v := by
  unfold wpY_after
  dsimp only
  refine ⟨by decide, nm_r (cy_eA h) ⟨by decide, by decide, nm_r (cy_eB h) ⟨by decide, by decide, nm_r (cy_eT h) ⟨by decide, ?_⟩⟩⟩⟩
  by_cases z : v < 0
  · exact br_c (fun _ => br_t z k) (fun _ => br_t z k)
  · have n : ¬ v ≤ 12 := fun l => absurd (Int32.le_trans (hv.resolve_left z) l) (by decide)
    exact br_c (fun _ => br_f z (br_f n k)) (fun _ => br_f z (br_f n k))
end
