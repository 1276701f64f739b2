-- the reference's rounds
section
variable {ws pl kn : Int32} {D E : Nat → Int32} {g w : Int32}
theorem cy_67 {post : Int32 → Prop} {J : Int32 → Int32 → Prop} {bW bL : Nat → Int32} {p c q : Nat} {r x1 x4 : Int32} (hq : cq_A D g w p c = some q)
    (hm : ¬ cq_G (fun q => bW (cq_y q)) (fun q => bL (cq_y q)) r (cq_mv p) q) (s : cq_S (cq_A D g w) (fun q => bW (cq_y q)) (fun q => bL (cq_y q)) p r c (x4 = 0))
    (ih : ∀ x : Int32, cq_S (cq_A D g w) (fun q => bW (cq_y q)) (fun q => bL (cq_y q)) p r (c + 1) (x = 0) → J x (nI (c + 1))) :
    wY_follows_67 post J x1 r (cq_ot p) x4 (nI c) (nI (cq_y q)) ws pl kn D E bW bL := by
  have hl := cq_ylt q (cq_Al p c q hq)
  have hv : vp_in (nI (cq_y q)) 432 := vp_in_nI hl (by omega)
  unfold wY_follows_67
  refine ⟨hv, ?_⟩
  rw [nI_clamp (by omega)]
  refine br_c (fun e => ⟨hv, br_c (fun l => nm_r (nI_1 c) (ih x4 (cq_Sk hq ⟨e, l⟩ s))) (fun l => nm_r (nI_1 c) (ih 0 (cq_So hq hm (fun G => l G.2) s rfl)))⟩) (fun e => nm_r (nI_1 c) (ih 0 (cq_So hq hm (fun G => e G.1) s rfl)))
theorem cy_foL {post : Int32 → Prop} {bW bL : Nat → Int32} {p : Nat} {r : Int32} (hg : ws &&& 1 = 0 ↔ g = 0) (hw : ws &&& 2 = 0 ↔ w = 0) (h : p < 432)
    (k : ∀ v, cq_FO (cq_A D g w) (fun q => bW (cq_y q)) (fun q => bL (cq_y q)) p r v → post v) : ∀ (d c : Nat) (x4 : Int32), c + d = 13 →
    cq_S (cq_A D g w) (fun q => bW (cq_y q)) (fun q => bL (cq_y q)) p r c (x4 = 0) →
    wY_follows_14 post (nI (cq_y p)) r (cq_ot p) ws pl kn D E bW bL (d + 1) x4 (nI c) := by
  intro d
  induction d with
  | zero =>
    intro c x4 hc s
    have hc' : c = 13 := by omega
    subst hc'
    exact br_t (by decide) (br_c (fun z => k 0 (cq_S13 s z)) (fun z => k _ (cq_S13n s z)))
  | succ d ih =>
    intro c x4 hc s
    refine br_f ?_ (cy_af hg hw h (by omega) (fun hn => ?_) (fun q hq => ?_))
    · exact fun l => absurd ((nI_ltI (a := 12) (by omega) (by omega)).mp l) (by omega)
    · exact br_t (by decide) (nm_r (nI_1 c) (ih (c + 1) x4 (by omega) (cq_Sn hn s)))
    · have hl := cq_ylt q (cq_Al p c q hq)
      have hv : vp_in (nI (cq_y q)) 432 := vp_in_nI hl (by omega)
      refine br_f (nI_pos (by omega)) ⟨hv, cy_mv h ?_⟩
      rw [nI_clamp (by omega)]
      refine br_c (fun e => ⟨hv, br_c (fun l => ?_) (fun l => cy_mv h (k _ (cq_Sm (by omega) hq ⟨e, Int32.not_le.mp l⟩)))⟩) (fun e => ?_)
      · exact cy_67 hq (fun G => absurd l (Int32.not_le.mpr G.2)) s (fun x sx => ih (c + 1) x (by omega) sx)
      · exact cy_67 hq (fun G => e G.1) s (fun x sx => ih (c + 1) x (by omega) sx)
theorem cy_fo {post : Int32 → Prop} {bW bL : Nat → Int32} {p : Nat} {r : Int32} (hg : ws &&& 1 = 0 ↔ g = 0) (hw : ws &&& 2 = 0 ↔ w = 0) (h : p < 432)
    (k : ∀ v, cq_FO (cq_A D g w) (fun q => bW (cq_y q)) (fun q => bL (cq_y q)) p r v → post v) : wpY_follows post (ws, pl, kn, D, E, bW, bL) (nI (cq_y p)) r := by
  have e : 3 - cq_mv p = cq_ot p := by
    by_cases hp : 216 ≤ p
    · rw [show cq_mv p = 2 from if_pos hp, show cq_ot p = 1 from if_pos hp]; decide
    · rw [show cq_mv p = 1 from if_neg hp, show cq_ot p = 2 from if_neg hp]; decide
  unfold wpY_follows
  dsimp only
  exact cy_mv h (nm_r e ⟨14, cy_foL hg hw h k 13 0 1 rfl (cq_S0 (by decide))⟩)
theorem cy_129 {post : SY → Prop} {J59 J75 : Int32 → Int32 → (Nat → Int32) → (Nat → Int32) → (Nat → Int32) → (Nat → Int32) → Prop} {bW bL : Nat → Int32} {s v i : Nat} {x2 z0 : Int32}
    (hi : i < 432) (hv : bW i = nI v) (k : J75 (nI (s + v)) (nI (i + 1)) D E bW (upd bL i z0)) :
    wY_workOut_129 post J59 J75 x2 (nI s) (nI i) z0 (nI i) ws pl kn D E bW bL := by
  have hin : vp_in (nI i) 432 := vp_in_nI hi (by omega)
  unfold wY_workOut_129
  rw [nI_clamp (by omega)]
  refine ⟨hin, nm_e ⟨hin, nm_r (e' := nI (s + v)) ?_ (nm_r (nI_1 i) k)⟩⟩
  rw [hv, nI_add]
theorem cq_n3 {x : Int32} (h : x = 0 ∨ x = 1 ∨ x = 2) : ∃ v : Nat, v ≤ 2 ∧ x = nI v := by
  rcases h with h | h | h
  · exact ⟨0, by omega, h⟩
  · exact ⟨1, by omega, h⟩
  · exact ⟨2, by omega, h⟩
theorem cy_75 {post : SY → Prop} {J59 : Int32 → Int32 → (Nat → Int32) → (Nat → Int32) → (Nat → Int32) → (Nat → Int32) → Prop} {W L : Nat → Int32} {r : Nat}
    (hg : ws &&& 1 = 0 ↔ g = 0) (hw : ws &&& 2 = 0 ↔ w = 0) (hr : r < 432) (ok : cq_Ok W L r)
    (k : ∀ (x1 : Int32) (bW bL : Nat → Int32), (∀ q, q < 432 → bW (cq_y q) = cq_sW (cq_A D g w) W L r q ∧ bL (cq_y q) = cq_sL (cq_A D g w) W L r q) →
      (x1 = 0 → 0 < r ∧ ∀ p, p < 432 → W p = 0 → cq_fo (cq_A D g w) W L p (nI r) = 0) → J59 x1 (nI (r + 1)) D E bW bL) :
    ∀ (d i s : Nat) (bW bL : Nat → Int32), i + d = 432 → cq_sd (cq_A D g w) W L r cq_y bW bL i → s ≤ 2 * i → (s = 0 → cq_nf (cq_A D g w) W L r cq_y i) →
      wY_workOut_75 post J59 (nI r) ws pl kn (d + 1) (nI s) (nI i) D E bW bL := by
  intro d
  induction d with
  | zero =>
    intro i s bW bL hi sd hs hn
    have hi' : i = 432 := by omega
    subst hi'
    have fin : ∀ q, q < 432 → bW (cq_y q) = cq_sW (cq_A D g w) W L r q ∧ bL (cq_y q) = cq_sL (cq_A D g w) W L r q := fun q hq => (sd q hq).1 (cq_ylt q hq)
    refine br_t (by decide) ?_
    by_cases z : r = 0
    · subst z
      exact br_t rfl (nm_r (nI_1 0) (k 1 bW bL fin (fun o => absurd o (by decide))))
    · refine br_f (nI_ne0 (by omega) (by omega)) (pk_le s 0 (fun l => ?_) (fun l => ?_))
      · exact nm_r (nI_1 r) (k 0 bW bL fin (fun _ => ⟨by omega, fun p hp => hn (by omega) p hp (cq_ylt p hp)⟩))
      · exact nm_r (nI_1 r) (k 1 bW bL fin (fun o => absurd o (by decide)))
  | succ d ih =>
    intro i s bW bL hi sd hs hn
    have hl : i < 432 := by omega
    have hv : vp_in (nI i) 432 := vp_in_nI hl (by omega)
    obtain ⟨p, hp, ep⟩ : ∃ p, p < 432 ∧ cq_y p = i := ⟨cq_x i, cq_xlt i hl, cq_yx i hl⟩
    have inj : ∀ q, q < 432 → cq_y q = i → q = p := fun q hq e => cq_yinj hq hp (e.trans ep.symm)
    have old := (sd p hp).2 (by omega)
    rw [ep] at old
    refine br_f (nI_ge (b := 432) hl (by decide)) ⟨hv, ?_⟩
    rw [nI_clamp (by omega)]
    refine br_c (fun z => ?_) (fun z => nm_r (nI_1 i) (ih (i + 1) s bW bL (by omega) ?_ (by omega) ?_))
    · have z' : W p = 0 := old.1.symm.trans z
      rw [← ep]
      refine cy_fo hg hw hp (fun v fv => ?_)
      rw [ep]
      have ev : v = cq_fo (cq_A D g w) W L p (nI r) := cq_sdF (fun c q hq => cq_Al p c q hq) sd fv
      obtain ⟨n, hn2, en⟩ := cq_n3 (cq_fo3 (cq_A D g w) W L p (nI r))
      refine ⟨hv, nm_e ⟨hv, ?_⟩⟩
      have es : upd bW i v i = v := pk_us
      rw [es]
      refine br_c (fun f => cy_129 (v := n) hl (es.trans (ev.trans en)) (ih (i + 1) (s + n) _ _ (by omega) ?_ (by omega) ?_)) (fun f => cy_129 (v := n) hl (es.trans (ev.trans en)) (ih (i + 1) (s + n) _ _ (by omega) ?_ (by omega) ?_))
      · have t := cq_sw3 hp z' (ev.symm.trans f)
        exact cq_sdS sd ep inj (es.trans (f.trans t.1.symm)) (pk_us.trans (((ok p hp).2.1 z').symm.trans t.2.symm)) (fun j hj => ⟨pk_un hj, pk_un hj⟩)
      · exact fun o => cq_nfS (hn (by omega)) inj (fun _ => ev.symm.trans f)
      · have t := cq_sw2 hp z' (fun e => f (ev.trans e))
        exact cq_sdS sd ep inj (es.trans (ev.trans t.1.symm)) (pk_us.trans t.2.symm) (fun j hj => ⟨pk_un hj, pk_un hj⟩)
      · intro o
        have n0 : n = 0 := by omega
        rw [n0] at en
        exact absurd (ev.trans en) f
    · have t := cq_sw1 (A := cq_A D g w) (L := L) (r := r) (fun e => z (old.1.trans e))
      exact cq_sdS sd ep inj (old.1.trans t.1.symm) (old.2.trans t.2.symm) (fun j _ => ⟨rfl, rfl⟩)
    · exact fun o => cq_nfS (hn o) inj (fun e => absurd (old.1.trans e) z)
theorem cy_59 {post : SY → Prop} (hg : ws &&& 1 = 0 ↔ g = 0) (hw : ws &&& 2 = 0 ↔ w = 0)
    (k : ∀ bW bL : Nat → Int32, cq_at (cq_TT D E g w 433) cq_y bW bL → post (ws, pl, 1, D, E, bW, bL)) :
    ∀ (d r : Nat) (x1 : Int32) (bW bL : Nat → Int32), r + d = 432 → cq_at (cq_TT D E g w r) cq_y bW bL → (x1 = 0 → cq_TT D E g w r = cq_TT D E g w 433) →
      wY_workOut_59 post ws pl kn (d + 1) x1 (nI r) D E bW bL := by
  intro d
  induction d with
  | zero =>
    intro r x1 bW bL hr s hx
    have hr' : r = 432 := by omega
    subst hr'
    have s' : cq_at (cq_TT D E g w 433) cq_y bW bL := by
      rw [cq_TTlast]; exact s
    exact br_t (by decide) (k bW bL s')
  | succ d ih =>
    intro r x1 bW bL hr s hx
    refine br_f (nI_ge (b := 432) (by omega) (by decide)) (br_c (fun z => k bW bL ?_) (fun z => ⟨433, ?_⟩))
    · rw [← hx z]; exact s
    refine cy_75 hg hw (by omega) (cq_TTok D E g w r) (fun x1 cW cL hc hn => ?_) 432 0 0 bW bL rfl (cq_sd0 s) (by omega) (fun _ _ _ y => absurd y (Nat.not_lt_zero _))
    exact ih (r + 1) x1 cW cL (by omega) hc (fun y => cq_TTend (hn y).1 (by omega) (hn y).2)
theorem cy_10 {post : SY → Prop} (k : ∀ bW bL : Nat → Int32, cq_at (cq_TT D E g w 0) cq_y bW bL → ∃ n, wY_workOut_59 post ws pl kn n 1 0 D E bW bL) :
    ∀ (d i : Nat) (bW bL : Nat → Int32), i + d = 432 → (∀ q, q < 432 → cq_y q < i → bW (cq_y q) = cq_W0 E q ∧ bL (cq_y q) = cq_L0 E q) →
      wY_workOut_10 post ws pl kn (d + 1) (nI i) D E bW bL := by
  intro d
  induction d with
  | zero =>
    intro i bW bL hi s
    have hi' : i = 432 := by omega
    subst hi'
    exact br_t (by decide) (k bW bL (fun q hq => s q hq (cq_ylt q hq)))
  | succ d ih =>
    intro i bW bL hi s
    have hl : i < 432 := by omega
    have hv : vp_in (nI i) 432 := vp_in_nI hl (by omega)
    obtain ⟨p, hp, ep⟩ : ∃ p, p < 432 ∧ cq_y p = i := ⟨cq_x i, cq_xlt i hl, cq_yx i hl⟩
    have inj : ∀ q, q < 432 → cq_y q = i → q = p := fun q hq e => cq_yinj hq hp (e.trans ep.symm)
    refine br_f (nI_ge (b := 432) hl (by decide)) ?_
    rw [nI_clamp (by omega), ← ep]
    refine cy_ov hp ?_
    rw [ep]
    have es : upd bW i (cq_W0 E p) i = cq_W0 E p := pk_us
    refine ⟨hv, nm_e ⟨hv, ?_⟩⟩
    rw [es]
    refine br_c (fun z => ⟨hv, nm_e (nm_r (nI_1 i) (ih (i + 1) _ _ (by omega) ?_))⟩) (fun z => ⟨hv, nm_e (nm_r (nI_1 i) (ih (i + 1) _ _ (by omega) ?_))⟩)
    · intro q hq hlt
      by_cases e : cq_y q = i
      · have hqp := inj q hq e
        rw [e, hqp]
        exact ⟨pk_us, pk_us.trans (if_pos z).symm⟩
      · exact ⟨(pk_un e).trans (s q hq (by omega)).1, (pk_un e).trans (s q hq (by omega)).2⟩
    · intro q hq hlt
      by_cases e : cq_y q = i
      · have hqp := inj q hq e
        rw [e, hqp]
        exact ⟨pk_us, pk_us.trans (if_neg z).symm⟩
      · exact ⟨(pk_un e).trans (s q hq (by omega)).1, (pk_un e).trans (s q hq (by omega)).2⟩
theorem cy_wo {post : SY → Prop} {bW bL : Nat → Int32} (hg : ws &&& 1 = 0 ↔ g = 0) (hw : ws &&& 2 = 0 ↔ w = 0) (h : kn = 0 ∨ ¬ kn = 0 ∧ cq_at (cq_TT D E g w 433) cq_y bW bL)
    (k : ∀ (kn' : Int32) (cW cL : Nat → Int32), ¬ kn' = 0 → cq_at (cq_TT D E g w 433) cq_y cW cL → post (ws, pl, kn', D, E, cW, cL)) : wpY_workOut post (ws, pl, kn, D, E, bW, bL) := by
  unfold wpY_workOut
  dsimp only
  refine br_c (fun z => ⟨433, ?_⟩) (fun z => k kn bW bL z (h.resolve_left z).2)
  exact cy_10 (g := g) (w := w) (fun cW cL hc => ⟨433, cy_59 hg hw (fun dW dL hd => k 1 dW dL (by decide) hd) 432 0 1 cW cL rfl hc (fun o => absurd o (by decide))⟩) 432 0 bW bL rfl
    (fun _ _ o => absurd o (Nat.not_lt_zero _))
end
