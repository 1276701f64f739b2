-- total, longest, best over the finished table
section
variable {T : (Nat → Int32) × (Nat → Int32)} {who : Int32}
theorem cq_ct1 {P : Nat → Bool} {i : Nat} (h : P i = true) : cq_ct P (i + 1) = cq_ct P i + 1 := by
  show cq_ct P i + (if P i = true then 1 else 0) = _
  rw [if_pos h]
theorem cq_ct0 {P : Nat → Bool} {i : Nat} (h : ¬ P i = true) : cq_ct P (i + 1) = cq_ct P i := by
  show cq_ct P i + (if P i = true then 1 else 0) = _
  rw [if_neg h]
  exact Nat.add_zero _
theorem cx_toL {post : Int32 → Prop} {g w cu : Int32} {D E aW aL : Nat → Int32} {P : Nat → Bool} (h : ∀ i, i < 432 → (aW i = who ↔ P i = true)) (k : post (nI (cq_ct P 432))) :
    ∀ d i : Nat, i + d = 432 → wX_total_4 post who g w cu D E aW aL (d + 1) (nI (cq_ct P i)) (nI i) := by
  intro d
  induction d with
  | zero =>
    intro i hi
    have hi' : i = 432 := by omega
    subst hi'
    exact br_t (by decide) k
  | succ d ih =>
    intro i hi
    have hl : i < 432 := by omega
    refine br_f (nI_ge (b := 432) hl (by decide)) ⟨vp_in_nI hl (by omega), ?_⟩
    rw [nI_clamp (by omega)]
    have s := ih (i + 1) (by omega)
    refine br_c (fun z => nm_r (nI_1 _) (nm_r (nI_1 i) ?_)) (fun z => nm_r (nI_1 i) ?_)
    · rw [cq_ct1 ((h i hl).mp z)] at s; exact s
    · rw [cq_ct0 (fun y => z ((h i hl).mpr y))] at s; exact s
theorem cy_toL {post : Int32 → SY → Prop} {ws pl kn : Int32} {D E bW bL : Nat → Int32} {P : Nat → Bool} (h : ∀ i, i < 432 → (bW i = who ↔ P i = true))
    (k : post (nI (cq_ct P 432)) (ws, pl, kn, D, E, bW, bL)) :
    ∀ d i : Nat, i + d = 432 → wY_total_8 post who ws pl kn D E bW bL (d + 1) (nI (cq_ct P i)) (nI i) := by
  intro d
  induction d with
  | zero =>
    intro i hi
    have hi' : i = 432 := by omega
    subst hi'
    exact br_t (by decide) k
  | succ d ih =>
    intro i hi
    have hl : i < 432 := by omega
    refine br_f (nI_ge (b := 432) hl (by decide)) ⟨vp_in_nI hl (by omega), ?_⟩
    rw [nI_clamp (by omega)]
    have s := ih (i + 1) (by omega)
    refine br_c (fun z => nm_r (nI_1 _) (nm_r (nI_1 i) ?_)) (fun z => nm_r (nI_1 i) ?_)
    · rw [cq_ct1 ((h i hl).mp z)] at s; exact s
    · rw [cq_ct0 (fun y => z ((h i hl).mpr y))] at s; exact s
theorem cq_atx {bW bL : Nat → Int32} (h : cq_at T cq_y bW bL) {i : Nat} (hi : i < 432) : bW i = T.1 (cq_x i) ∧ bL i = T.2 (cq_x i) := by
  have s := h (cq_x i) (cq_xlt i hi)
  rw [cq_yx i hi] at s
  exact s
theorem cx_total {post : Int32 → Prop} {g w cu : Int32} {D E aW aL : Nat → Int32} (h : cq_at T (fun q => q) aW aL) (k : post (nI (cq_ct (fun p => decide (T.1 p = who)) 432))) :
    wpX_total post (g, w, cu, D, E, aW, aL) who :=
  ⟨433, cx_toL (P := fun p => decide (T.1 p = who)) (fun i hi => by rw [show aW i = T.1 i from (h i hi).1]; exact decide_eq_true_iff.symm) k 432 0 rfl⟩
theorem cy_totalL {post : Int32 → SY → Prop} {ws pl kn : Int32} {D E bW bL : Nat → Int32} (h : cq_at T cq_y bW bL)
    (k : post (nI (cq_ct (fun p => decide (T.1 p = who)) 432)) (ws, pl, kn, D, E, bW, bL)) : ∃ n, wY_total_8 post who ws pl kn D E bW bL n 0 0 := by
  rw [← cq_ctx (fun p => decide (T.1 p = who))] at k
  exact ⟨433, cy_toL (P := fun q => decide (T.1 (cq_x q) = who)) (fun i hi => by rw [(cq_atx h hi).1]; exact decide_eq_true_iff.symm) k 432 0 rfl⟩

theorem cq_gr0 (W L : Nat → Int32) (e : Nat → Nat) (who : Int32) : cq_gr W L e who 0 (-3) := ⟨fun _ _ h => absurd h (Nat.not_lt_zero _), Or.inl rfl⟩
theorem cq_grA {W L : Nat → Int32} {e : Nat → Nat} {i p : Nat} {v : Int32} (inj : ∀ q, q < 432 → e q = i → q = p) (h : W p = who → L p ≤ v) (s : cq_gr W L e who i v) : cq_gr W L e who (i + 1) v := by
  refine ⟨fun q hq hl hw => ?_, s.2⟩
  by_cases z : e q = i
  · have hqp := inj q hq z
    subst hqp
    exact h hw
  · exact s.1 q hq (by omega) hw
theorem cq_grB {W L : Nat → Int32} {e : Nat → Nat} {i p : Nat} {v : Int32} (hp : p < 432) (inj : ∀ q, q < 432 → e q = i → q = p) (h : W p = who) (hn : ¬ L p ≤ v) (s : cq_gr W L e who i v) :
    cq_gr W L e who (i + 1) (L p) := by
  have hlt : v < L p := Int32.not_le.mp hn
  refine ⟨fun q hq hl hw => ?_, Or.inr ⟨p, hp, h, rfl, ?_⟩⟩
  · by_cases z : e q = i
    · have hqp := inj q hq z
      subst hqp
      exact Int32.le_refl _
    · exact Int32.le_of_lt (Int32.lt_of_le_of_lt (s.1 q hq (by omega) hw) hlt)
  · rcases s.2 with z | ⟨_, _, _, _, z⟩
    · rw [z] at hlt; exact hlt
    · exact Int32.lt_trans z hlt
theorem cx_loL {post : Int32 → Prop} {g w cu : Int32} {D E aW aL : Nat → Int32} (h : cq_at T (fun q => q) aW aL) (k : ∀ v, cq_gr T.1 T.2 (fun q => q) who 432 v → post v) :
    ∀ (d i : Nat) (v : Int32), i + d = 432 → cq_gr T.1 T.2 (fun q => q) who i v → wX_longest_5 post who g w cu D E aW aL (d + 1) v (nI i) := by
  intro d
  induction d with
  | zero =>
    intro i v hi s
    have hi' : i = 432 := by omega
    subst hi'
    exact br_t (by decide) (k v s)
  | succ d ih =>
    intro i v hi s
    have hl : i < 432 := by omega
    have hv : vp_in (nI i) 432 := vp_in_nI hl (by omega)
    have inj : ∀ q, q < 432 → (fun q : Nat => q) q = i → q = i := fun q _ e => e
    refine br_f (nI_ge (b := 432) hl (by decide)) ⟨hv, ?_⟩
    rw [nI_clamp (by omega), show aW i = T.1 i from (h i hl).1, show aL i = T.2 i from (h i hl).2]
    refine br_c (fun z => ⟨hv, br_c (fun l => nm_r (nI_1 i) (ih (i + 1) v (by omega) (cq_grA inj (fun _ => l) s))) (fun l => ⟨hv, nm_e (nm_r (nI_1 i) (ih (i + 1) _ (by omega) (cq_grB hl inj z l s)))⟩)⟩) (fun z => nm_r (nI_1 i) (ih (i + 1) v (by omega) (cq_grA inj (fun y => absurd y z) s)))
theorem cy_loL {post : Int32 → SY → Prop} {ws pl kn : Int32} {D E bW bL : Nat → Int32} (h : cq_at T cq_y bW bL) (k : ∀ v, cq_gr T.1 T.2 cq_y who 432 v → post v (ws, pl, kn, D, E, bW, bL)) :
    ∀ (d i : Nat) (v : Int32), i + d = 432 → cq_gr T.1 T.2 cq_y who i v → wY_longest_9 post who ws pl kn D E bW bL (d + 1) v (nI i) := by
  intro d
  induction d with
  | zero =>
    intro i v hi s
    have hi' : i = 432 := by omega
    subst hi'
    exact br_t (by decide) (k v s)
  | succ d ih =>
    intro i v hi s
    have hl : i < 432 := by omega
    have hv : vp_in (nI i) 432 := vp_in_nI hl (by omega)
    have hx := cq_xlt i hl
    have inj : ∀ q, q < 432 → cq_y q = i → q = cq_x i := fun q hq e => cq_yinj hq hx (e.trans (cq_yx i hl).symm)
    refine br_f (nI_ge (b := 432) hl (by decide)) ⟨hv, ?_⟩
    rw [nI_clamp (by omega), (cq_atx h hl).1, (cq_atx h hl).2]
    refine br_c (fun z => ⟨hv, br_c (fun l => nm_r (nI_1 i) (ih (i + 1) v (by omega) (cq_grA inj (fun _ => l) s))) (fun l => ⟨hv, nm_e (nm_r (nI_1 i) (ih (i + 1) _ (by omega) (cq_grB hx inj z l s)))⟩)⟩) (fun z => nm_r (nI_1 i) (ih (i + 1) v (by omega) (cq_grA inj (fun y => absurd y z) s)))

-- the best move
def cq_K (T : (Nat → Int32) × (Nat → Int32)) (p q : Nat) : Prop := T.1 q = T.1 p ∧ (T.1 p = 0 ∨ T.2 q = T.2 p - 1)
def cq_Q (T : (Nat → Int32) × (Nat → Int32)) (D : Nat → Int32) (g w : Int32) (p c : Nat) : Prop := ∃ q, cq_A D g w p c = some q ∧ cq_K T p q
def cq_B (T : (Nat → Int32) × (Nat → Int32)) (D E : Nat → Int32) (g w : Int32) (p : Nat) (v : Int32) : Prop :=
  (¬ cq_W0 E p = 0 ∧ v = -2) ∨ (cq_W0 E p = 0 ∧ cq_be (cq_Q T D g w p) v)
theorem cq_Bu {D E : Nat → Int32} {g w : Int32} {p : Nat} {v v' : Int32} (h : cq_B T D E g w p v) (h' : cq_B T D E g w p v') : v = v' := by
  rcases h with ⟨z, e⟩ | ⟨z, e⟩
  · rcases h' with ⟨z', e'⟩ | ⟨z', e'⟩
    · rw [e, e']
    · exact absurd z' z
  · rcases h' with ⟨z', e'⟩ | ⟨z', e'⟩
    · exact absurd z z'
    · exact cq_beu e e'
theorem cq_Qs {D : Nat → Int32} {g w : Int32} {p c q : Nat} (hq : cq_A D g w p c = some q) (hn : ¬ cq_K T p q) : ¬ cq_Q T D g w p c := by
  rintro ⟨q', e, hk⟩
  rw [hq] at e
  cases e
  exact hn hk
theorem cq_Qn {D : Nat → Int32} {g w : Int32} {p c : Nat} (hq : cq_A D g w p c = none) : ¬ cq_Q T D g w p c := by
  rintro ⟨q', e, hk⟩
  rw [hq] at e
  exact nomatch e
theorem cx_kt {post : Int32 → Prop} {g w cu : Int32} {D E aW aL : Nat → Int32} {p q : Nat} (h : cq_at T (fun q => q) aW aL) (hp : p < 432) (hq : q < 432)
    (k1 : cq_K T p q → post 1) (k0 : ¬ cq_K T p q → post 0) : wpX_keepsToTable post (g, w, cu, D, E, aW, aL) (nI p) (nI q) := by
  have vp : vp_in (nI p) 432 := vp_in_nI hp (by omega)
  have vq : vp_in (nI q) 432 := vp_in_nI hq (by omega)
  unfold wpX_keepsToTable
  dsimp only
  rw [nI_clamp (show p < 2 ^ 31 by omega), nI_clamp (show q < 2 ^ 31 by omega), show aW p = T.1 p from (h p hp).1, show aL p = T.2 p from (h p hp).2, show aW q = T.1 q from (h q hq).1, show aL q = T.2 q from (h q hq).2]
  exact ⟨vq, vp, br_c (fun e => ⟨vp, br_c (fun z => k1 ⟨e, Or.inl z⟩) (fun z => ⟨vq, vp, br_c (fun l => k1 ⟨e, Or.inr l⟩) (fun l => k0 (fun K => K.2.elim z l))⟩)⟩) (fun e => k0 (fun K => e K.1))⟩
theorem cq_m1 {q : Nat} (h : q < 432) : ¬ nI q = -1 := fun z => absurd (z ▸ nI_pos (n := q) (by omega) : ¬ (-1 : Int32) < 0) (by decide)
theorem cx_beL {post : Int32 → Prop} {g w : Int32} {D E aW aL : Nat → Int32} {p : Nat} (h : cq_at T (fun q => q) aW aL) (hp : p < 432) (k : ∀ v, cq_be (cq_Q T D g w p) v → post v) :
    ∀ d c : Nat, c + d = 13 → (∀ j, j < c → ¬ cq_Q T D g w p j) → wX_best_16 post g w (nI p) D E aW aL (d + 1) (nI c) := by
  intro d
  induction d with
  | zero =>
    intro c hc s
    have hc' : c = 13 := by omega
    subst hc'
    exact br_t (by decide) (k (-2) (Or.inr ⟨rfl, s⟩))
  | succ d ih =>
    intro c hc s
    have ext : ¬ cq_Q T D g w p c → ∀ j, j < c + 1 → ¬ cq_Q T D g w p j := by
      intro n j hj
      by_cases e : j = c
      · rw [e]; exact n
      · exact s j (by omega)
    refine br_f ?_ (cx_af hp (by omega) (fun hn => br_t rfl (nm_r (nI_1 c) (ih (c + 1) (by omega) (ext (cq_Qn hn))))) (fun q hq => br_f (cq_m1 (cq_Al p c q hq)) ?_))
    · exact fun l => absurd ((nI_ltI (a := 12) (by omega) (by omega)).mp l) (by omega)
    · refine cx_kt h hp (cq_Al p c q hq) (fun K => ?_) (fun K => ?_)
      · exact br_f (by decide) (k (nI c) (Or.inl ⟨c, by omega, rfl, ⟨q, hq, K⟩, s⟩))
      · exact br_t rfl (nm_r (nI_1 c) (ih (c + 1) (by omega) (ext (cq_Qs hq K))))
theorem cx_best {post : Int32 → Prop} {g w : Int32} {D E aW aL : Nat → Int32} {p : Nat} (h : cq_at T (fun q => q) aW aL) (hp : p < 432) (k : ∀ v, cq_B T D E g w p v → post v) :
    wpX_best post (g, w, nI p, D, E, aW, aL) := by
  unfold wpX_best
  dsimp only
  exact cx_wo hp (br_c (fun z => ⟨14, cx_beL h hp (fun v hv => k v (Or.inr ⟨z, hv⟩)) 13 0 rfl (fun j hj => absurd hj (Nat.not_lt_zero _))⟩) (fun z => k (-2) (Or.inl ⟨z, rfl⟩)))
end
section
variable {T : (Nat → Int32) × (Nat → Int32)} {ws kn g w : Int32} {D E : Nat → Int32} {p : Nat}
theorem cy_cmL {post : Int32 → Prop} {pl : Int32} {bW bL : Nat → Int32} (hg : ws &&& 1 = 0 ↔ g = 0) (hw : ws &&& 2 = 0 ↔ w = 0) (hp : p < 432) (k0 : (∀ c, c < 13 → cq_A D g w p c = none) → post 0) (k1 : post 1) :
    ∀ d c : Nat, c + d = 13 → (∀ j, j < c → cq_A D g w p j = none) → wY_canMove_12 post (nI (cq_y p)) ws pl kn D E bW bL (d + 1) (nI c) := by
  intro d
  induction d with
  | zero =>
    intro c hc s
    have hc' : c = 13 := by omega
    subst hc'
    exact br_t (by decide) (k0 s)
  | succ d ih =>
    intro c hc s
    refine br_f ?_ (cy_af hg hw hp (by omega) (fun hn => br_t (by decide) (nm_r (nI_1 c) (ih (c + 1) (by omega) ?_))) (fun q hq => br_f (nI_pos ?_) k1))
    · exact fun l => absurd ((nI_ltI (a := 12) (by omega) (by omega)).mp l) (by omega)
    · intro j hj
      by_cases e : j = c
      · rw [e]; exact hn
      · exact s j (by omega)
    · have := cq_ylt q (cq_Al p c q hq)
      omega
theorem cy_beL {post : Int32 → SY → Prop} {bW bL : Nat → Int32} (hg : ws &&& 1 = 0 ↔ g = 0) (hw : ws &&& 2 = 0 ↔ w = 0) (h : cq_at T cq_y bW bL) (hp : p < 432)
    (k : ∀ v, cq_be (cq_Q T D g w p) v → post v (ws, nI (cq_y p), kn, D, E, bW, bL)) :
    ∀ d c : Nat, c + d = 13 → (∀ j, j < c → ¬ cq_Q T D g w p j) → wY_best_20 post ws (nI (cq_y p)) kn D E bW bL (d + 1) (nI c) := by
  intro d
  induction d with
  | zero =>
    intro c hc s
    have hc' : c = 13 := by omega
    subst hc'
    exact br_t (by decide) (k (-2) (Or.inr ⟨rfl, s⟩))
  | succ d ih =>
    intro c hc s
    have ext : ¬ cq_Q T D g w p c → ∀ j, j < c + 1 → ¬ cq_Q T D g w p j := by
      intro n j hj
      by_cases e : j = c
      · rw [e]; exact n
      · exact s j (by omega)
    have hyp := cq_ylt p hp
    refine br_f ?_ (cy_af hg hw hp (by omega) (fun hn => br_t (by decide) (nm_r (nI_1 c) (ih (c + 1) (by omega) (ext (cq_Qn hn))))) (fun q hq => ?_))
    · exact fun l => absurd ((nI_ltI (a := 12) (by omega) (by omega)).mp l) (by omega)
    · have hq' := cq_Al p c q hq
      have hyq := cq_ylt q hq'
      have vp : vp_in (nI (cq_y p)) 432 := vp_in_nI hyp (by omega)
      have vq : vp_in (nI (cq_y q)) 432 := vp_in_nI hyq (by omega)
      have yes : cq_K T p q → post (nI c) (ws, nI (cq_y p), kn, D, E, bW, bL) := fun K => k (nI c) (Or.inl ⟨c, by omega, rfl, ⟨q, hq, K⟩, s⟩)
      have no : ¬ cq_K T p q → wY_best_20 post ws (nI (cq_y p)) kn D E bW bL (d + 1) (nI (c + 1)) := fun K => ih (c + 1) (by omega) (ext (cq_Qs hq K))
      refine br_f (nI_pos (by omega)) ⟨vq, vp, ?_⟩
      rw [nI_clamp (show cq_y p < 2 ^ 31 by omega), nI_clamp (show cq_y q < 2 ^ 31 by omega), (h p hp).1, (h p hp).2, (h q hq').1, (h q hq').2]
      exact br_c (fun e => ⟨vp, br_c (fun z => yes ⟨e, Or.inl z⟩) (fun z => ⟨vq, vp, br_c (fun l => yes ⟨e, Or.inr l⟩) (fun l => nm_r (nI_1 c) (no (fun K => K.2.elim z l)))⟩)⟩) (fun e => nm_r (nI_1 c) (no (fun K => e K.1)))
theorem cy_best {post : Int32 → SY → Prop} {bW bL : Nat → Int32} (hg : ws &&& 1 = 0 ↔ g = 0) (hw : ws &&& 2 = 0 ↔ w = 0) (h : kn = 0 ∨ ¬ kn = 0 ∧ cq_at (cq_TT D E g w 433) cq_y bW bL) (hp : p < 432)
    (k : ∀ (v kn' : Int32) (cW cL : Nat → Int32), cq_B (cq_TT D E g w 433) D E g w p v → (kn' = 0 ∨ ¬ kn' = 0 ∧ cq_at (cq_TT D E g w 433) cq_y cW cL) → post v (ws, nI (cq_y p), kn', D, E, cW, cL)) :
    wpY_best post (ws, nI (cq_y p), kn, D, E, bW, bL) := by
  unfold wpY_best
  dsimp only
  unfold wpY_canMove
  dsimp only
  refine cy_ov hp (br_c (fun z => ⟨14, cy_cmL hg hw hp (fun hn => ?_) ?_ 13 0 rfl (fun j hj => absurd hj (Nat.not_lt_zero _))⟩) (fun z => br_t rfl (k (-2) kn bW bL (Or.inl ⟨z, rfl⟩) h)))
  · exact br_t rfl (k (-2) kn bW bL (Or.inr ⟨z, Or.inr ⟨rfl, fun c hc => cq_Qn (hn c hc)⟩⟩) h)
  · refine br_f (by decide) (cy_wo hg hw h (fun kn' cW cL hk hc => ?_))
    exact ⟨14, cy_beL hg hw hc hp (fun v hv => k v kn' cW cL (Or.inr ⟨z, hv⟩) (Or.inr ⟨hk, hc⟩)) 13 0 rfl (fun j hj => absurd hj (Nat.not_lt_zero _))⟩
end
