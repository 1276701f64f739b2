-- the methods that ask for places
def cq_no (v : Int32) : Prop := v < 0 ∨ nI 6 ≤ v
theorem cq_1 (v : Int32) : cq_no v ∨ ∃ a : Nat, a < 6 ∧ v = nI a := by
  rcases pk_ix v (n := 6) (by omega) with h | h | h
  · exact Or.inl (Or.inl h)
  · exact Or.inl (Or.inr h)
  · exact Or.inr h
def cq_nob (v1 v2 v3 : Int32) : Prop := cq_no v1 ∨ (∃ a : Nat, a < 6 ∧ v1 = nI a) ∧ (cq_no v2 ∨ (∃ b : Nat, b < 6 ∧ v2 = nI b) ∧ cq_no v3)
theorem cq_3 (v1 v2 v3 : Int32) : cq_nob v1 v2 v3 ∨ ∃ a b t : Nat, a < 6 ∧ b < 6 ∧ t < 6 ∧ v1 = nI a ∧ v2 = nI b ∧ v3 = nI t := by
  rcases cq_1 v1 with h1 | ⟨a, ha, e1⟩
  · exact Or.inl (Or.inl h1)
  · rcases cq_1 v2 with h2 | ⟨b, hb, e2⟩
    · exact Or.inl (Or.inr ⟨⟨a, ha, e1⟩, Or.inl h2⟩)
    · rcases cq_1 v3 with h3 | ⟨t, ht, e3⟩
      · exact Or.inl (Or.inr ⟨⟨a, ha, e1⟩, Or.inr ⟨⟨b, hb, e2⟩, h3⟩⟩)
      · exact Or.inr ⟨a, b, t, ha, hb, ht, e1, e2, e3⟩
theorem cq_bz (v : Int32) : ∃ m : Nat, m < 2 ∧ lw_bz v = nI m := by
  rcases lw_bz_01 v with h | h
  · exact ⟨0, by omega, h⟩
  · exact ⟨1, by omega, h⟩
theorem cx_apn {post : Int32 → Prop} {v1 v2 v3 : Int32} (h : cq_nob v1 v2 v3) (k : post 0) : wpX_arePlaces post v1 v2 v3 := by
  unfold wpX_arePlaces
  rcases h with h | ⟨⟨a, ha, rfl⟩, h | ⟨⟨b, hb, rfl⟩, h⟩⟩
  · exact cx_ipn h (br_t rfl k)
  · exact cx_ip ha (br_f (by decide) (cx_ipn h (br_t rfl k)))
  · exact cx_ip ha (br_f (by decide) (cx_ip hb (br_f (by decide) (cx_ipn h (br_t rfl k)))))
theorem cx_ap {post : Int32 → Prop} {a b t : Nat} (ha : a < 6) (hb : b < 6) (ht : t < 6) (k : post 1) : wpX_arePlaces post (nI a) (nI b) (nI t) := by
  unfold wpX_arePlaces
  exact cx_ip ha (br_f (by decide) (cx_ip hb (br_f (by decide) (cx_ip ht (br_f (by decide) k)))))
section
variable {ws pl kn : Int32} {D E bW bL : Nat → Int32} {A B : Prop}
theorem cy_b3 {a b t : Nat} (ha : a < 6) (hb : b < 6) (ht : t < 6) (k : A) :
    wpY_bad (fun r1 => (r1 = 0 → wpY_bad (fun r2 => (r2 = 0 → wpY_bad (fun r3 => (r3 = 0 → A) ∧ (¬ r3 = 0 → B)) (ws, pl, kn, D, E, bW, bL) (nI t)) ∧ (¬ r2 = 0 → B)) (ws, pl, kn, D, E, bW, bL) (nI b)) ∧ (¬ r1 = 0 → B)) (ws, pl, kn, D, E, bW, bL) (nI a) :=
  cy_bad ha (br_t rfl (cy_bad hb (br_t rfl (cy_bad ht (br_t rfl k)))))
theorem cy_b3n {v1 v2 v3 : Int32} (h : cq_nob v1 v2 v3) (k : B) :
    wpY_bad (fun r1 => (r1 = 0 → wpY_bad (fun r2 => (r2 = 0 → wpY_bad (fun r3 => (r3 = 0 → A) ∧ (¬ r3 = 0 → B)) (ws, pl, kn, D, E, bW, bL) v3) ∧ (¬ r2 = 0 → B)) (ws, pl, kn, D, E, bW, bL) v2) ∧ (¬ r1 = 0 → B)) (ws, pl, kn, D, E, bW, bL) v1 := by
  rcases h with h | ⟨⟨a, ha, rfl⟩, h | ⟨⟨b, hb, rfl⟩, h⟩⟩
  · exact cy_badn h (br_f (by decide) k)
  · exact cy_bad ha (br_t rfl (cy_badn h (br_f (by decide) k)))
  · exact cy_bad ha (br_t rfl (cy_bad hb (br_t rfl (cy_badn h (br_f (by decide) k)))))
end
section
variable {g w cu : Int32} {D E aW aL : Nat → Int32} {ws pl kn : Int32} {bW bL : Nat → Int32} {T : (Nat → Int32) × (Nat → Int32)} {a b t m : Nat} {f : Int32}
theorem cx_setn {post : Int32 → SX → Prop} {v1 v2 v3 : Int32} (h : cq_nob v1 v2 v3) (k : post (-1) (g, w, cu, D, E, aW, aL)) : wpX_set post (g, w, cu, D, E, aW, aL) v1 v2 v3 f := by
  unfold wpX_set
  dsimp only
  exact cx_apn h (br_t rfl k)
theorem cx_set {post : Int32 → SX → Prop} (ha : a < 6) (hb : b < 6) (ht : t < 6) (hm : m < 2) (hf : f = nI m) (k : post 0 (g, w, nI (cq_n a b t m), D, E, aW, aL)) :
    wpX_set post (g, w, cu, D, E, aW, aL) (nI a) (nI b) (nI t) f := by
  unfold wpX_set
  dsimp only
  exact cx_ap ha hb ht (br_f (by decide) (cx_nu hm hf k))
theorem cy_setn {post : Int32 → SY → Prop} {v1 v2 v3 : Int32} (h : cq_nob v1 v2 v3) (k : post (-1) (ws, pl, kn, D, E, bW, bL)) : wpY_set post (ws, pl, kn, D, E, bW, bL) v1 v2 v3 f := by
  unfold wpY_set
  dsimp only
  exact cy_b3n h k
theorem cy_set {post : Int32 → SY → Prop} (ha : a < 6) (hb : b < 6) (ht : t < 6) (hm : m < 2) (hf : f = nI m) (k : post 0 (ws, nI (cq_y (cq_n a b t m)), kn, D, E, bW, bL)) :
    wpY_set post (ws, pl, kn, D, E, bW, bL) (nI a) (nI b) (nI t) f := by
  unfold wpY_set
  dsimp only
  exact cy_b3 ha hb ht (cy_nu hm hf ha hb ht k)
theorem cx_oun {post : Int32 → Prop} {v1 v2 v3 : Int32} (h : cq_nob v1 v2 v3) (k : post (-1)) : wpX_outcome post (g, w, cu, D, E, aW, aL) v1 v2 v3 f := by
  unfold wpX_outcome
  dsimp only
  exact cx_apn h (br_t rfl k)
theorem cx_ou {post : Int32 → Prop} (h : cq_at T (fun q => q) aW aL) (ha : a < 6) (hb : b < 6) (ht : t < 6) (hm : m < 2) (hf : f = nI m) (k : post (T.1 (cq_n a b t m))) :
    wpX_outcome post (g, w, cu, D, E, aW, aL) (nI a) (nI b) (nI t) f := by
  have hl := cq_nlt ha hb ht hm
  unfold wpX_outcome
  dsimp only
  refine cx_ap ha hb ht (br_f (by decide) (cx_nu hm hf ⟨vp_in_nI hl (by omega), ?_⟩))
  rw [nI_clamp (by omega), show aW (cq_n a b t m) = _ from (h _ hl).1]
  exact k
theorem cx_len {post : Int32 → Prop} {v1 v2 v3 : Int32} (h : cq_nob v1 v2 v3) (k : post (-1)) : wpX_length post (g, w, cu, D, E, aW, aL) v1 v2 v3 f := by
  unfold wpX_length
  dsimp only
  exact cx_apn h (br_t rfl k)
theorem cx_le {post : Int32 → Prop} (h : cq_at T (fun q => q) aW aL) (ha : a < 6) (hb : b < 6) (ht : t < 6) (hm : m < 2) (hf : f = nI m) (k : post (T.2 (cq_n a b t m))) :
    wpX_length post (g, w, cu, D, E, aW, aL) (nI a) (nI b) (nI t) f := by
  have hl := cq_nlt ha hb ht hm
  unfold wpX_length
  dsimp only
  refine cx_ap ha hb ht (br_f (by decide) (cx_nu hm hf ⟨vp_in_nI hl (by omega), ?_⟩))
  rw [nI_clamp (by omega), show aL (cq_n a b t m) = _ from (h _ hl).2]
  exact k
theorem cy_oun {post : Int32 → SY → Prop} {v1 v2 v3 : Int32} (h : cq_nob v1 v2 v3) (k : post (-1) (ws, pl, kn, D, E, bW, bL)) : wpY_outcome post (ws, pl, kn, D, E, bW, bL) v1 v2 v3 f := by
  unfold wpY_outcome
  dsimp only
  exact cy_b3n h k
theorem cy_len {post : Int32 → SY → Prop} {v1 v2 v3 : Int32} (h : cq_nob v1 v2 v3) (k : post (-1) (ws, pl, kn, D, E, bW, bL)) : wpY_length post (ws, pl, kn, D, E, bW, bL) v1 v2 v3 f := by
  unfold wpY_length
  dsimp only
  exact cy_b3n h k
theorem cy_ou {post : Int32 → SY → Prop} (hg : ws &&& 1 = 0 ↔ g = 0) (hw : ws &&& 2 = 0 ↔ w = 0) (h : kn = 0 ∨ ¬ kn = 0 ∧ cq_at (cq_TT D E g w 433) cq_y bW bL)
    (ha : a < 6) (hb : b < 6) (ht : t < 6) (hm : m < 2) (hf : f = nI m)
    (k : ∀ (kn' : Int32) (cW cL : Nat → Int32), ¬ kn' = 0 → cq_at (cq_TT D E g w 433) cq_y cW cL → post ((cq_TT D E g w 433).1 (cq_n a b t m)) (ws, pl, kn', D, E, cW, cL)) :
    wpY_outcome post (ws, pl, kn, D, E, bW, bL) (nI a) (nI b) (nI t) f := by
  have hl := cq_nlt ha hb ht hm
  have hy := cq_ylt _ hl
  unfold wpY_outcome
  dsimp only
  refine cy_b3 ha hb ht (cy_wo hg hw h (fun kn' cW cL hk hc => cy_nu hm hf ha hb ht ⟨vp_in_nI hy (by omega), ?_⟩))
  dsimp only
  rw [nI_clamp (by omega), (hc _ hl).1]
  exact k kn' cW cL hk hc
theorem cy_le {post : Int32 → SY → Prop} (hg : ws &&& 1 = 0 ↔ g = 0) (hw : ws &&& 2 = 0 ↔ w = 0) (h : kn = 0 ∨ ¬ kn = 0 ∧ cq_at (cq_TT D E g w 433) cq_y bW bL)
    (ha : a < 6) (hb : b < 6) (ht : t < 6) (hm : m < 2) (hf : f = nI m)
    (k : ∀ (kn' : Int32) (cW cL : Nat → Int32), ¬ kn' = 0 → cq_at (cq_TT D E g w 433) cq_y cW cL → post ((cq_TT D E g w 433).2 (cq_n a b t m)) (ws, pl, kn', D, E, cW, cL)) :
    wpY_length post (ws, pl, kn, D, E, bW, bL) (nI a) (nI b) (nI t) f := by
  have hl := cq_nlt ha hb ht hm
  have hy := cq_ylt _ hl
  unfold wpY_length
  dsimp only
  refine cy_b3 ha hb ht (cy_wo hg hw h (fun kn' cW cL hk hc => cy_nu hm hf ha hb ht ⟨vp_in_nI hy (by omega), ?_⟩))
  dsimp only
  rw [nI_clamp (by omega), (hc _ hl).2]
  exact k kn' cW cL hk hc
-- door and exit
def cq_bit (x : Int32) : Int32 := if x = 0 then 0 else 1
theorem cx_do {post : Int32 → SX → Prop} (ha : a < 6) (hb : b < 6) (hne : a ≠ b)
    (k : ∀ cW cL : Nat → Int32, cq_at (cq_TT (upd D (a * 6 + b) (vp_nar .boolean f)) E g w 433) (fun q => q) cW cL → post (cq_bit (D (a * 6 + b))) (g, w, cu, upd D (a * 6 + b) (vp_nar .boolean f), E, cW, cL)) :
    wpX_door post (g, w, cu, D, E, aW, aL) (nI a) (nI b) f := by
  have hv : vp_in (nI (a * 6 + b)) 36 := vp_in_nI (by omega) (by omega)
  have hc : (nI (a * 6 + b)).toNatClampNeg = a * 6 + b := nI_clamp (by omega)
  unfold wpX_door
  dsimp only
  refine cx_ip ha (br_f (by decide) (cx_ip hb (br_f (by decide) (br_f (fun e => hne ((nI_eq (by omega) (by omega)).mp e)) (nm_r cy_ix ⟨hv, ?_⟩)))))
  rw [hc]
  refine br_c (fun z => ⟨hv, ?_⟩) (fun z => ⟨hv, ?_⟩)
  · rw [hc]
    rw [show cq_bit (D (a * 6 + b)) = 0 from if_pos z] at k
    exact nm_e (cx_solve k)
  · rw [hc]
    rw [show cq_bit (D (a * 6 + b)) = 1 from if_neg z] at k
    exact nm_e (cx_solve k)
theorem cy_do {post : Int32 → SY → Prop} (ha : a < 6) (hb : b < 6) (hne : a ≠ b)
    (k : post (cq_bit (D (a * 6 + b))) (ws, pl, 0, upd D (a * 6 + b) (vp_nar .boolean f), E, bW, bL)) :
    wpY_door post (ws, pl, kn, D, E, bW, bL) (nI a) (nI b) f := by
  have hv : vp_in (nI (a * 6 + b)) 36 := vp_in_nI (by omega) (by omega)
  have hc : (nI (a * 6 + b)).toNatClampNeg = a * 6 + b := nI_clamp (by omega)
  unfold wpY_door
  dsimp only
  rw [cy_ix, hc]
  refine cy_bad ha (br_t rfl (cy_bad hb (br_t rfl (br_f (fun e => hne ((nI_eq (by omega) (by omega)).mp e)) ⟨hv, ?_⟩))))
  refine br_c (fun z => ?_) (fun z => ?_)
  · unfold wY_door_45
    rw [cy_ix, hc]
    rw [show cq_bit (D (a * 6 + b)) = 0 from if_pos z] at k
    exact ⟨hv, nm_e k⟩
  · unfold wY_door_45
    rw [cy_ix, hc]
    rw [show cq_bit (D (a * 6 + b)) = 1 from if_neg z] at k
    exact ⟨hv, nm_e k⟩
theorem cx_ex {post : Int32 → SX → Prop} (ha : a < 6)
    (k : ∀ cW cL : Nat → Int32, cq_at (cq_TT D (upd E a (vp_nar .boolean f)) g w 433) (fun q => q) cW cL → post (cq_bit (E a)) (g, w, cu, D, upd E a (vp_nar .boolean f), cW, cL)) :
    wpX_exit post (g, w, cu, D, E, aW, aL) (nI a) f := by
  have hv : vp_in (nI a) 6 := vp_in_nI (by omega) (by omega)
  have hc : (nI a).toNatClampNeg = a := nI_clamp (by omega)
  unfold wpX_exit
  dsimp only
  refine cx_ip ha (br_f (by decide) ⟨hv, ?_⟩)
  rw [hc]
  refine br_c (fun z => ⟨hv, ?_⟩) (fun z => ⟨hv, ?_⟩)
  · rw [hc]
    rw [show cq_bit (E a) = 0 from if_pos z] at k
    exact nm_e (cx_solve k)
  · rw [hc]
    rw [show cq_bit (E a) = 1 from if_neg z] at k
    exact nm_e (cx_solve k)
theorem cy_ex {post : Int32 → SY → Prop} (ha : a < 6) (k : post (cq_bit (E a)) (ws, pl, 0, D, upd E a (vp_nar .boolean f), bW, bL)) :
    wpY_exit post (ws, pl, kn, D, E, bW, bL) (nI a) f := by
  have hv : vp_in (nI a) 6 := vp_in_nI (by omega) (by omega)
  have hc : (nI a).toNatClampNeg = a := nI_clamp (by omega)
  unfold wpY_exit
  dsimp only
  refine cy_bad ha (br_t rfl ⟨hv, ?_⟩)
  rw [hc]
  refine br_c (fun z => ?_) (fun z => ?_)
  · unfold wY_exit_24
    rw [hc]
    rw [show cq_bit (E a) = 0 from if_pos z] at k
    exact ⟨hv, nm_e k⟩
  · unfold wY_exit_24
    rw [hc]
    rw [show cq_bit (E a) = 1 from if_neg z] at k
    exact ⟨hv, nm_e k⟩
end
