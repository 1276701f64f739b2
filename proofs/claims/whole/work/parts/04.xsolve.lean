-- the class's rounds
noncomputable def cq_TT (D E : Nat → Int32) (g w : Int32) (r : Nat) : (Nat → Int32) × (Nat → Int32) := cq_T (cq_A D g w) (cq_W0 E) (cq_L0 E) r
def cq_at (T : (Nat → Int32) × (Nat → Int32)) (e : Nat → Nat) (aW aL : Nat → Int32) : Prop := ∀ q, q < 432 → aW (e q) = T.1 q ∧ aL (e q) = T.2 q
theorem cq_TTok (D E : Nat → Int32) (g w : Int32) (r : Nat) : cq_Ok (cq_TT D E g w r).1 (cq_TT D E g w r).2 r := cq_okT (cq_ok0 E) r
theorem cq_TTend {D E : Nat → Int32} {g w : Int32} {r : Nat} (h1 : 0 < r) (h2 : r ≤ 432)
    (h : ∀ p, p < 432 → (cq_TT D E g w r).1 p = 0 → cq_fo (cq_A D g w) (cq_TT D E g w r).1 (cq_TT D E g w r).2 p (nI r) = 0) : cq_TT D E g w (r + 1) = cq_TT D E g w 433 :=
  cq_end cq_AlN (cq_ok0 E) h1 h2 h
theorem cq_TTlast (D E : Nat → Int32) (g w : Int32) : cq_TT D E g w 433 = cq_TT D E g w 432 := cq_last cq_AlN (cq_ok0 E) (cq_w00 E)
theorem cq_sd0 {A : Nat → Nat → Option Nat} {T : (Nat → Int32) × (Nat → Int32)} {r : Nat} {e : Nat → Nat} {aW aL : Nat → Int32} (h : cq_at T e aW aL) : cq_sd A T.1 T.2 r e aW aL 0 :=
  fun q hq => ⟨fun z => absurd z (Nat.not_lt_zero _), fun _ => h q hq⟩
theorem cq_third {x : Int32} {p : Nat} (h : x = 0 ∨ x = 1 ∨ x = 2) (z : ¬ x = 0) (e : ¬ x = cq_mv p) : x = cq_ot p := by
  by_cases hp : 216 ≤ p
  · rw [show cq_mv p = 2 from if_pos hp] at e
    rw [show cq_ot p = 1 from if_pos hp]
    exact (h.resolve_left z).resolve_right e
  · rw [show cq_mv p = 1 from if_neg hp] at e
    rw [show cq_ot p = 2 from if_neg hp]
    exact (h.resolve_left z).resolve_left e
-- the entries of a table in the middle of a sweep
theorem cq_sd3 {A : Nat → Nat → Option Nat} {W L aW aL : Nat → Int32} {r i : Nat} {e : Nat → Nat} (ok : cq_Ok W L r) (s : cq_sd A W L r e aW aL i) {q : Nat} (hq : q < 432) :
    aW (e q) = 0 ∨ aW (e q) = 1 ∨ aW (e q) = 2 := by
  by_cases h : e q < i
  · rw [((s q hq).1 h).1]; exact (cq_okS (A := A) ok q hq).1
  · rw [((s q hq).2 (by omega)).1]; exact (ok q hq).1
section
variable {g w cu : Int32} {D E : Nat → Int32}
theorem cx_wirL {post : Int32 → Prop} {aW aL : Nat → Int32} {p : Nat} {r : Int32} (h : p < 432) (ok : ∀ q, q < 432 → aW q = 0 ∨ aW q = 1 ∨ aW q = 2)
    (k : ∀ v, cq_FO (cq_A D g w) aW aL p r v → post v) : ∀ (d c : Nat) (x4 : Int32), c + d = 13 → cq_S (cq_A D g w) aW aL p r c (¬ x4 = 0) →
    wX_winnerInRound_19 post (nI p) r (cq_mv p) g w cu D E aW aL (d + 1) x4 (nI c) := by
  intro d
  induction d with
  | zero =>
    intro c x4 hc s
    have hc' : c = 13 := by omega
    subst hc'
    refine br_t (by decide) (br_c (fun z => ?_) (fun z => k 0 (cq_S13 s z)))
    have f := k _ (cq_S13n s (fun n => n z))
    by_cases hp : 216 ≤ p
    · rw [show cq_ot p = 1 from if_pos hp] at f
      exact br_t (if_pos hp) f
    · rw [show cq_ot p = 2 from if_neg hp] at f
      refine br_f ?_ f
      rw [show cq_mv p = 1 from if_neg hp]; decide
  | succ d ih =>
    intro c x4 hc s
    refine br_f ?_ (cx_af h (by omega) (fun hn => ?_) (fun q hq => ?_))
    · exact fun l => absurd ((nI_ltI (a := 12) (by omega) (by omega)).mp l) (by omega)
    · exact br_t rfl (nm_r (nI_1 c) (ih (c + 1) x4 (by omega) (cq_Sn hn s)))
    · have hl := cq_Al p c q hq
      have hv : vp_in (nI q) 432 := vp_in_nI hl (by omega)
      have hn : ¬ nI q = -1 := fun z => absurd (z ▸ nI_pos (n := q) (by omega) : ¬ (-1 : Int32) < 0) (by decide)
      refine br_f hn ⟨hv, ?_⟩
      rw [nI_clamp (by omega)]
      refine br_c (fun z => nm_r (nI_1 c) (ih (c + 1) 1 (by omega) (cq_So hq (fun G => ?_) (fun G => ?_) s (by decide)))) (fun z => ⟨hv, br_c (fun l => ⟨hv, br_c (fun e => k _ (cq_Sm (by omega) hq ⟨e, l⟩)) (fun e => nm_r (nI_1 c) (ih (c + 1) x4 (by omega) (cq_Sk hq ⟨cq_third (ok q hl) z e, l⟩ s)))⟩) (fun l => nm_r (nI_1 c) (ih (c + 1) 1 (by omega) (cq_So hq (fun G => l G.2) (fun G => l G.2) s (by decide))))⟩)
      · exact (cq_mo p).2.1 (G.1.symm.trans z)
      · exact (cq_mo p).2.2 (G.1.symm.trans z)
theorem cx_wir {post : Int32 → Prop} {aW aL : Nat → Int32} {p : Nat} {r : Int32} (h : p < 432) (ok : ∀ q, q < 432 → aW q = 0 ∨ aW q = 1 ∨ aW q = 2)
    (k : ∀ v, cq_FO (cq_A D g w) aW aL p r v → post v) : wpX_winnerInRound post (g, w, cu, D, E, aW, aL) (nI p) r := by
  have s := cx_wirL (cu := cu) (E := E) h ok k 13 0 0 rfl (cq_S0 (fun z => z rfl))
  unfold wpX_winnerInRound
  dsimp only
  refine cx_th h (fun hp => br_t rfl ⟨14, ?_⟩) (fun hp => br_f (by decide) ⟨14, ?_⟩)
  · rw [show cq_mv p = 1 from if_neg (by omega)] at s; exact s
  · rw [show cq_mv p = 2 from if_pos hp] at s; exact s
theorem cx_srL {post : Int32 → SX → Prop} {W L : Nat → Int32} {r : Nat} (ok : cq_Ok W L r)
    (k : ∀ (x2 : Int32) (aW aL : Nat → Int32), (∀ q, q < 432 → aW q = cq_sW (cq_A D g w) W L r q ∧ aL q = cq_sL (cq_A D g w) W L r q) → (x2 = 0 ∨ x2 = 1) →
      (x2 = 0 → ∀ p, p < 432 → W p = 0 → cq_fo (cq_A D g w) W L p (nI r) = 0) → post x2 (g, w, cu, D, E, aW, aL)) :
    ∀ (d i : Nat) (x2 : Int32) (aW aL : Nat → Int32), i + d = 432 → cq_sd (cq_A D g w) W L r (fun q => q) aW aL i → (x2 = 0 ∨ x2 = 1) →
      (x2 = 0 → cq_nf (cq_A D g w) W L r (fun q => q) i) → wX_settleRound_4 post (nI r) g w cu (d + 1) x2 (nI i) D E aW aL := by
  intro d
  induction d with
  | zero =>
    intro i x2 aW aL hi s hx hn
    have hi' : i = 432 := by omega
    subst hi'
    refine br_t (by decide) ⟨?_, k x2 aW aL (fun q hq => (s q hq).1 hq) hx (fun z p hp => hn z p hp hp)⟩
    rcases hx with rfl | rfl <;> rfl
  | succ d ih =>
    intro i x2 aW aL hi s hx hn
    have hl : i < 432 := by omega
    have hv : vp_in (nI i) 432 := vp_in_nI hl (by omega)
    have old := (s i hl).2 (Nat.le_refl i)
    dsimp only at old
    have inj : ∀ q, q < 432 → (fun q : Nat => q) q = i → q = i := fun q _ e => e
    refine br_f (nI_ge (b := 432) hl (by decide)) ⟨hv, ?_⟩
    rw [nI_clamp (by omega)]
    refine br_c (fun z => cx_wir hl (fun q hq => cq_sd3 ok s hq) (fun v fv => ?_)) (fun z => nm_r (nI_1 i) (ih (i + 1) x2 aW aL (by omega) ?_ hx ?_))
    · have ev : v = cq_fo (cq_A D g w) W L i (nI r) := cq_sdF (e := fun q => q) (fun c q hq => cq_Al i c q hq) s fv
      have z' : W i = 0 := old.1.symm.trans z
      refine br_c (fun f => nm_r (nI_1 i) (ih (i + 1) x2 aW aL (by omega) ?_ hx ?_)) (fun f => ⟨hv, nm_e ⟨hv, nm_e (nm_r (nI_1 i) (ih (i + 1) 1 _ _ (by omega) ?_ (Or.inr rfl) (fun o => absurd o (by decide))))⟩⟩)
      · have t := cq_sw3 hl z' (ev.symm.trans f)
        exact cq_sdS s rfl inj (z.trans t.1.symm) (old.2.trans t.2.symm) (fun j _ => ⟨rfl, rfl⟩)
      · exact fun o => cq_nfS (hn o) inj (fun _ => ev.symm.trans f)
      · have t := cq_sw2 hl z' (fun e => f (ev.trans e))
        exact cq_sdS s rfl inj (pk_us.trans (ev.trans t.1.symm)) (pk_us.trans t.2.symm) (fun j hj => ⟨pk_un hj, pk_un hj⟩)
    · have t := cq_sw1 (A := cq_A D g w) (L := L) (r := r) (fun e => z (old.1.trans e))
      exact cq_sdS s rfl inj (old.1.trans t.1.symm) (old.2.trans t.2.symm) (fun j _ => ⟨rfl, rfl⟩)
    · exact fun o => cq_nfS (hn o) inj (fun e => absurd (old.1.trans e) z)
theorem cx_sr {post : Int32 → SX → Prop} {aW aL : Nat → Int32} {r : Nat} (h : cq_at (cq_TT D E g w r) (fun q => q) aW aL)
    (k : ∀ (x2 : Int32) (bW bL : Nat → Int32), cq_at (cq_TT D E g w (r + 1)) (fun q => q) bW bL → (x2 = 0 ∨ x2 = 1) →
      (x2 = 0 → 0 < r → r ≤ 432 → cq_TT D E g w (r + 1) = cq_TT D E g w 433) → post x2 (g, w, cu, D, E, bW, bL)) :
    wpX_settleRound post (g, w, cu, D, E, aW, aL) (nI r) :=
  ⟨433, cx_srL (cq_TTok D E g w r) (fun x2 bW bL hb hx hn => k x2 bW bL hb hx (fun z h1 h2 => cq_TTend h1 h2 (hn z))) 432 0 0 aW aL rfl (cq_sd0 h) (Or.inl rfl)
    (fun _ _ _ z => absurd z (Nat.not_lt_zero _))⟩
theorem cx_stL {post : SX → Prop} (k : ∀ aW aL : Nat → Int32, cq_at (cq_TT D E g w 0) (fun q => q) aW aL → post (g, w, cu, D, E, aW, aL)) :
    ∀ (d i : Nat) (aW aL : Nat → Int32), i + d = 432 → (∀ q, q < i → aW q = cq_W0 E q ∧ aL q = cq_L0 E q) → wX_settleThoseOver_2 post g w cu (d + 1) (nI i) D E aW aL := by
  intro d
  induction d with
  | zero =>
    intro i aW aL hi s
    have hi' : i = 432 := by omega
    subst hi'
    exact br_t (by decide) (k aW aL s)
  | succ d ih =>
    intro i aW aL hi s
    have hl : i < 432 := by omega
    have hv : vp_in (nI i) 432 := vp_in_nI hl (by omega)
    refine br_f (nI_ge (b := 432) hl (by decide)) ?_
    rw [nI_clamp (by omega)]
    refine cx_wo hl ⟨hv, nm_e (br_c (fun z => ⟨hv, nm_e (nm_r (nI_1 i) (ih (i + 1) _ _ (by omega) ?_))⟩) (fun z => ⟨hv, nm_e (nm_r (nI_1 i) (ih (i + 1) _ _ (by omega) ?_))⟩))⟩
    · intro q hq
      by_cases e : q = i
      · subst e
        exact ⟨pk_us, pk_us.trans (if_pos z).symm⟩
      · exact ⟨(pk_un e).trans (s q (by omega)).1, (pk_un e).trans (s q (by omega)).2⟩
    · intro q hq
      by_cases e : q = i
      · subst e
        exact ⟨pk_us, pk_us.trans (if_neg z).symm⟩
      · exact ⟨(pk_un e).trans (s q (by omega)).1, (pk_un e).trans (s q (by omega)).2⟩
theorem cx_svL {post : SX → Prop} (k : ∀ aW aL : Nat → Int32, cq_at (cq_TT D E g w 433) (fun q => q) aW aL → post (g, w, cu, D, E, aW, aL)) :
    ∀ (d r : Nat) (x1 : Int32) (aW aL : Nat → Int32), r + d = 433 → 1 ≤ r → cq_at (cq_TT D E g w r) (fun q => q) aW aL → (x1 = 0 → cq_TT D E g w r = cq_TT D E g w 433) →
      wX_solve_14 post (d + 1) x1 (nI r) g w cu D E aW aL := by
  intro d
  induction d with
  | zero =>
    intro r x1 aW aL hr h1 s hx
    have hr' : r = 433 := by omega
    subst hr'
    exact br_c (fun z => k aW aL s) (fun z => br_t (by decide) (k aW aL s))
  | succ d ih =>
    intro r x1 aW aL hr h1 s hx
    refine br_c (fun z => k aW aL (hx z ▸ s)) (fun z => br_f (fun l => absurd ((nI_ltI (a := 432) (by omega) (by omega)).mp l) (by omega)) ?_)
    exact cx_sr s (fun x2 bW bL hb h2 hn => nm_r (nI_1 r) (ih (r + 1) x2 bW bL (by omega) (by omega) hb (fun z => hn z (by omega) (by omega))))
theorem cx_solve {post : SX → Prop} {aW aL : Nat → Int32} (k : ∀ bW bL : Nat → Int32, cq_at (cq_TT D E g w 433) (fun q => q) bW bL → post (g, w, cu, D, E, bW, bL)) :
    wpX_solve post (g, w, cu, D, E, aW, aL) := by
  unfold wpX_solve
  dsimp only
  unfold wpX_settleThoseOver
  dsimp only
  refine ⟨433, cx_stL (fun bW bL hb => ?_) 432 0 aW aL rfl (fun q hq => absurd hq (Nat.not_lt_zero _))⟩
  exact cx_sr (r := 0) hb (fun x2 cW cL hc _ _ => ⟨433, cx_svL k 432 1 1 cW cL rfl (by omega) hc (fun z => absurd z (by decide))⟩)
end
