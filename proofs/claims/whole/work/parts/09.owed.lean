-- the relation, and what is owed
def cq_R (g w ws kn : Int32) (p : Nat) (D E aW aL bW bL : Nat → Int32) : Prop :=
  p < 432 ∧ (ws &&& 1 = 0 ↔ g = 0) ∧ (ws &&& 2 = 0 ↔ w = 0) ∧ cq_at (cq_TT D E g w 433) (fun q => q) aW aL ∧ (kn = 0 ∨ ¬ kn = 0 ∧ cq_at (cq_TT D E g w 433) cq_y bW bL)
def i_Rel (k : Nat) (u : SX) (v : SY) : Prop :=
  ∃ (g w ws kn : Int32) (p : Nat) (D E aW aL bW bL : Nat → Int32), u = (g, w, nI p, D, E, aW, aL) ∧ v = (ws, nI (cq_y p), kn, D, E, bW, bL) ∧ cq_R g w ws kn p D E aW aL bW bL
theorem cq_mk {k : Nat} {g w ws kn : Int32} {p : Nat} {D E aW aL bW bL : Nat → Int32} (h : cq_R g w ws kn p D E aW aL bW bL) :
    i_Rel k (g, w, nI p, D, E, aW, aL) (ws, nI (cq_y p), kn, D, E, bW, bL) := ⟨g, w, ws, kn, p, D, E, aW, aL, bW, bL, rfl, rfl, h⟩
theorem i_up {k : Nat} {u : SX} {v : SY} (h : i_Rel k u v) : i_Rel (k + 5) u v := h
theorem i_vc0 (k0 : Int32) : wpX_init (fun u => wpY_init (fun v => i_Rel 1 u v) k0) k0 := by
  have e1 : k0 &&& 3 &&& 1 = k0 &&& 1 := by rw [Int32.and_assoc]; rfl
  have e2 : k0 &&& 3 &&& 2 = k0 &&& 2 := by rw [Int32.and_assoc]; rfl
  have fin : ∀ g w : Int32, (k0 &&& 1 = 0 ↔ g = 0) → (k0 &&& 2 = 0 ↔ w = 0) → ∀ aW aL : Nat → Int32, cq_at (cq_TT (fun _ => 0) (fun _ => 0) g w 433) (fun q => q) aW aL →
      wpY_init (fun v => i_Rel 1 (g, w, nI (cq_n 0 1 5 0), (fun _ => 0), (fun _ => 0), aW, aL) v) k0 := by
    intro g w hg hw aW aL h
    unfold wpY_init
    refine nm_e (cy_nu (a := 0) (b := 1) (t := 5) (m := 0) (by omega) rfl (by omega) (by omega) (by omega) ?_)
    exact cq_mk ⟨by decide, by rw [e1]; exact hg, by rw [e2]; exact hw, h, Or.inl rfl⟩
  have s65 : ∀ (g w : Int32), (w = 0 ∨ w = 1) → (k0 &&& 1 = 0 ↔ g = 0) → (k0 &&& 2 = 0 ↔ w = 0) →
      wX_init_65 (fun u => wpY_init (fun v => i_Rel 1 u v) k0) w g 0 0 (fun _ => 0) (fun _ => 0) (fun _ => 0) (fun _ => 0) := by
    intro g w hz hg hw
    unfold wX_init_65
    refine ⟨?_, ?_, cx_nu (a := 0) (b := 1) (t := 5) (m := 0) (by omega) rfl (cx_solve (fun aW aL h => fin g w hg hw aW aL h))⟩
    · rcases hz with rfl | rfl <;> rfl
    · rcases hz with rfl | rfl <;> decide
  have s50 : ∀ g : Int32, (g = 0 ∨ g = 1) → (k0 &&& 1 = 0 ↔ g = 0) →
      wX_init_50 (fun u => wpY_init (fun v => i_Rel 1 u v) k0) k0 g 0 0 0 (fun _ => 0) (fun _ => 0) (fun _ => 0) (fun _ => 0) := by
    intro g hz hg
    unfold wX_init_50
    refine ⟨?_, ?_, br_c (fun z => s65 g 0 (Or.inl rfl) hg ⟨fun _ => rfl, fun _ => z⟩) (fun z => s65 g 1 (Or.inr rfl) hg ⟨fun y => absurd y z, fun y => absurd y (by decide)⟩)⟩
    · rcases hz with rfl | rfl <;> rfl
    · rcases hz with rfl | rfl <;> decide
  unfold wpX_init
  exact br_c (fun z => s50 0 (Or.inl rfl) ⟨fun _ => rfl, fun _ => z⟩) (fun z => s50 1 (Or.inr rfl) ⟨fun y => absurd y z, fun y => absurd y (by decide)⟩)
theorem i_vc_door {k : Nat} {u : SX} {v : SY} (I : i_Rel k u v) (hk : k + 5 ≤ 2561) (v1 : Int32) (v2 : Int32) (v3 : Int32) : wpX_door (fun r u' => wpY_door (fun r' v' => r' = r ∧ i_Rel (k + 5) u' v') v v1 v2 (lw_bz v3)) u v1 v2 (lw_bz v3) := by
  obtain ⟨g, w, ws, kn, p, D, E, aW, aL, bW, bL, rfl, rfl, hR⟩ := I
  rcases cq_1 v1 with h1 | ⟨a, ha, rfl⟩
  · unfold wpX_door
    dsimp only
    refine cx_ipn h1 (br_t rfl ?_)
    unfold wpY_door
    dsimp only
    exact cy_badn h1 (br_f (by decide) ⟨rfl, cq_mk hR⟩)
  · rcases cq_1 v2 with h2 | ⟨b, hb, rfl⟩
    · unfold wpX_door
      dsimp only
      refine cx_ip ha (br_f (by decide) (cx_ipn h2 (br_t rfl ?_)))
      unfold wpY_door
      dsimp only
      exact cy_bad ha (br_t rfl (cy_badn h2 (br_f (by decide) ⟨rfl, cq_mk hR⟩)))
    · by_cases e : a = b
      · unfold wpX_door
        dsimp only
        refine cx_ip ha (br_f (by decide) (cx_ip hb (br_f (by decide) (br_t (congrArg nI e) ?_))))
        unfold wpY_door
        dsimp only
        exact cy_bad ha (br_t rfl (cy_bad hb (br_t rfl (br_t (congrArg nI e) ⟨rfl, cq_mk hR⟩))))
      · exact cx_do ha hb e (fun cW cL hc => cy_do ha hb e ⟨rfl, cq_mk ⟨hR.1, hR.2.1, hR.2.2.1, hc, Or.inl rfl⟩⟩)
theorem i_vc_exit {k : Nat} {u : SX} {v : SY} (I : i_Rel k u v) (hk : k + 5 ≤ 2561) (v1 : Int32) (v2 : Int32) : wpX_exit (fun r u' => wpY_exit (fun r' v' => r' = r ∧ i_Rel (k + 5) u' v') v v1 (lw_bz v2)) u v1 (lw_bz v2) := by
  obtain ⟨g, w, ws, kn, p, D, E, aW, aL, bW, bL, rfl, rfl, hR⟩ := I
  rcases cq_1 v1 with h1 | ⟨a, ha, rfl⟩
  · unfold wpX_exit
    dsimp only
    refine cx_ipn h1 (br_t rfl ?_)
    unfold wpY_exit
    dsimp only
    exact cy_badn h1 (br_f (by decide) ⟨rfl, cq_mk hR⟩)
  · exact cx_ex ha (fun cW cL hc => cy_ex ha ⟨rfl, cq_mk ⟨hR.1, hR.2.1, hR.2.2.1, hc, Or.inl rfl⟩⟩)
theorem i_vc_set {k : Nat} {u : SX} {v : SY} (I : i_Rel k u v) (hk : k + 5 ≤ 2561) (v1 : Int32) (v2 : Int32) (v3 : Int32) (v4 : Int32) : wpX_set (fun r u' => wpY_set (fun r' v' => r' = r ∧ i_Rel (k + 5) u' v') v v1 v2 v3 (lw_bz v4)) u v1 v2 v3 (lw_bz v4) := by
  obtain ⟨g, w, ws, kn, p, D, E, aW, aL, bW, bL, rfl, rfl, hR⟩ := I
  obtain ⟨m, hm, em⟩ := cq_bz v4
  rcases cq_3 v1 v2 v3 with h | ⟨a, b, t, ha, hb, ht, rfl, rfl, rfl⟩
  · exact cx_setn h (cy_setn h ⟨rfl, cq_mk hR⟩)
  · exact cx_set ha hb ht hm em (cy_set ha hb ht hm em ⟨rfl, cq_mk ⟨cq_nlt ha hb ht hm, hR.2⟩⟩)
theorem i_vc_play {k : Nat} {u : SX} {v : SY} (I : i_Rel k u v) (hk : k + 5 ≤ 2561) (v1 : Int32) : wpX_play (fun r u' => wpY_play (fun r' v' => r' = r ∧ i_Rel (k + 5) u' v') v v1) u v1 := by
  obtain ⟨g, w, ws, kn, p, D, E, aW, aL, bW, bL, rfl, rfl, hR⟩ := I
  have hp := hR.1
  unfold wpX_play
  dsimp only
  refine cx_wo hp (br_c (fun z => ?_) (fun z => ?_))
  · have yn : ∀ r : Int32, r = -2 → (∀ k1 : Int32 → Prop, k1 (-1) → wpY_after k1 (ws, nI (cq_y p), kn, D, E, bW, bL) (nI (cq_y p)) v1) →
        wpY_play (fun r' v' => r' = r ∧ i_Rel (k + 5) (g, w, nI p, D, E, aW, aL) v') (ws, nI (cq_y p), kn, D, E, bW, bL) v1 := by
      intro r er ha
      unfold wpY_play
      dsimp only
      exact cy_ov hp (br_t z (ha _ (br_f (by decide) ⟨er.symm, cq_mk hR⟩)))
    rcases pk_ix v1 (n := 13) (by omega) with h | h | ⟨c, hc, rfl⟩
    · exact cx_afx hp (Or.inl h) (br_t rfl (yn _ rfl (fun k1 h1 => cy_afx hp (Or.inl h) h1)))
    · exact cx_afx hp (Or.inr h) (br_t rfl (yn _ rfl (fun k1 h1 => cy_afx hp (Or.inr h) h1)))
    · refine cx_af hp hc (fun hn => br_t rfl (yn _ rfl (fun k1 h1 => ?_))) (fun q hq => ?_)
      · exact cy_af hR.2.1 hR.2.2.1 hp hc (fun _ => h1) (fun q hq => absurd (hn.symm.trans hq) (by intro o; exact nomatch o))
      · have hl := cq_Al p c q hq
        have hy := cq_ylt q hl
        refine br_f (cq_m1 hl) ?_
        unfold wpY_play
        dsimp only
        refine cy_ov hp (br_t z (cy_af hR.2.1 hR.2.2.1 hp hc (fun hn => absurd (hn.symm.trans hq) (by intro o; exact nomatch o)) (fun q' hq' => ?_)))
        rw [hq] at hq'
        cases hq'
        exact br_t (nI_pos' (by omega)) ⟨rfl, cq_mk ⟨hl, hR.2⟩⟩
  · unfold wpY_play
    dsimp only
    exact cy_ov hp (br_f z ⟨rfl, cq_mk hR⟩)
theorem i_vc_board {k : Nat} {u : SX} {v : SY} (I : i_Rel k u v) (hk : k + 5 ≤ 2561) : wpX_board (fun r => wpY_board (fun r' => r' = r ∧ i_Rel (k + 5) u v) v) u := by
  obtain ⟨g, w, ws, kn, p, D, E, aW, aL, bW, bL, rfl, rfl, hR⟩ := I
  have hp := hR.1
  have Y : ∀ r : Int32, nI (cq_a p) + 8 * nI (cq_b p) + 64 * nI (cq_t p) + 512 * nI (p / 216) = r →
      wpY_board (fun r' => r' = r ∧ i_Rel (k + 5) (g, w, nI p, D, E, aW, aL) (ws, nI (cq_y p), kn, D, E, bW, bL)) (ws, nI (cq_y p), kn, D, E, bW, bL) := by
    intro r er
    unfold wpY_board
    dsimp only
    rw [cy_eA hp, cy_eB hp, cy_eT hp, cy_eM hp]
    exact ⟨by decide, by decide, by decide, by decide, by decide, by decide, er, cq_mk hR⟩
  unfold wpX_board
  dsimp only
  refine cx_pA hp (cx_pB hp (cx_pT hp (nm_e (cx_th hp (fun l => br_t rfl (Y _ ?_)) (fun l => br_f (by decide) (Y _ ?_))))))
  · rw [show p / 216 = 0 by omega, show (512 : Int32) * nI 0 = 0 from rfl, Int32.add_zero]
  · rw [show p / 216 = 1 by omega, show (512 : Int32) * nI 1 = 512 from rfl]
theorem i_vc_outcome {k : Nat} {u : SX} {v : SY} (I : i_Rel k u v) (hk : k + 5 ≤ 2561) (v1 : Int32) (v2 : Int32) (v3 : Int32) (v4 : Int32) : wpX_outcome (fun r => wpY_outcome (fun r' v' => r' = r ∧ i_Rel (k + 5) u v') v v1 v2 v3 (lw_bz v4)) u v1 v2 v3 (lw_bz v4) := by
  obtain ⟨g, w, ws, kn, p, D, E, aW, aL, bW, bL, rfl, rfl, hR⟩ := I
  obtain ⟨m, hm, em⟩ := cq_bz v4
  rcases cq_3 v1 v2 v3 with h | ⟨a, b, t, ha, hb, ht, rfl, rfl, rfl⟩
  · exact cx_oun h (cy_oun h ⟨rfl, cq_mk hR⟩)
  · exact cx_ou hR.2.2.2.1 ha hb ht hm em (cy_ou hR.2.1 hR.2.2.1 hR.2.2.2.2 ha hb ht hm em (fun kn' cW cL hk hc => ⟨rfl, cq_mk ⟨hR.1, hR.2.1, hR.2.2.1, hR.2.2.2.1, Or.inr ⟨hk, hc⟩⟩⟩))
theorem i_vc_length {k : Nat} {u : SX} {v : SY} (I : i_Rel k u v) (hk : k + 5 ≤ 2561) (v1 : Int32) (v2 : Int32) (v3 : Int32) (v4 : Int32) : wpX_length (fun r => wpY_length (fun r' v' => r' = r ∧ i_Rel (k + 5) u v') v v1 v2 v3 (lw_bz v4)) u v1 v2 v3 (lw_bz v4) := by
  obtain ⟨g, w, ws, kn, p, D, E, aW, aL, bW, bL, rfl, rfl, hR⟩ := I
  obtain ⟨m, hm, em⟩ := cq_bz v4
  rcases cq_3 v1 v2 v3 with h | ⟨a, b, t, ha, hb, ht, rfl, rfl, rfl⟩
  · exact cx_len h (cy_len h ⟨rfl, cq_mk hR⟩)
  · exact cx_le hR.2.2.2.1 ha hb ht hm em (cy_le hR.2.1 hR.2.2.1 hR.2.2.2.2 ha hb ht hm em (fun kn' cW cL hk hc => ⟨rfl, cq_mk ⟨hR.1, hR.2.1, hR.2.2.1, hR.2.2.2.1, Or.inr ⟨hk, hc⟩⟩⟩))
theorem i_vc_best {k : Nat} {u : SX} {v : SY} (I : i_Rel k u v) (hk : k + 5 ≤ 2561) : wpX_best (fun r => wpY_best (fun r' v' => r' = r ∧ i_Rel (k + 5) u v') v) u := by
  obtain ⟨g, w, ws, kn, p, D, E, aW, aL, bW, bL, rfl, rfl, hR⟩ := I
  exact cx_best hR.2.2.2.1 hR.1 (fun r hr => cy_best hR.2.1 hR.2.2.1 hR.2.2.2.2 hR.1 (fun r' kn' cW cL hr' hk => ⟨cq_Bu hr' hr, cq_mk ⟨hR.1, hR.2.1, hR.2.2.1, hR.2.2.2.1, hk⟩⟩))
theorem i_vc_total {k : Nat} {u : SX} {v : SY} (I : i_Rel k u v) (hk : k + 5 ≤ 2561) (v1 : Int32) : wpX_total (fun r => wpY_total (fun r' v' => r' = r ∧ i_Rel (k + 5) u v') v v1) u v1 := by
  obtain ⟨g, w, ws, kn, p, D, E, aW, aL, bW, bL, rfl, rfl, hR⟩ := I
  refine cx_total hR.2.2.2.1 ?_
  unfold wpY_total
  dsimp only
  exact cy_wo hR.2.1 hR.2.2.1 hR.2.2.2.2 (fun kn' cW cL hk hc => cy_totalL hc ⟨rfl, cq_mk ⟨hR.1, hR.2.1, hR.2.2.1, hR.2.2.2.1, Or.inr ⟨hk, hc⟩⟩⟩)
theorem i_vc_longest {k : Nat} {u : SX} {v : SY} (I : i_Rel k u v) (hk : k + 5 ≤ 2561) (v1 : Int32) : wpX_longest (fun r => wpY_longest (fun r' v' => r' = r ∧ i_Rel (k + 5) u v') v v1) u v1 := by
  obtain ⟨g, w, ws, kn, p, D, E, aW, aL, bW, bL, rfl, rfl, hR⟩ := I
  unfold wpX_longest
  dsimp only
  refine ⟨433, cx_loL hR.2.2.2.1 (fun r hr => ?_) 432 0 (-3) rfl (cq_gr0 _ _ _ _)⟩
  unfold wpY_longest
  dsimp only
  refine cy_wo hR.2.1 hR.2.2.1 hR.2.2.2.2 (fun kn' cW cL hk hc => ⟨433, cy_loL hc (fun r' hr' => ?_) 432 0 (-3) rfl (cq_gr0 _ _ _ _)⟩)
  exact ⟨cq_gru cq_ylt (fun _ h => h) hr' hr, cq_mk ⟨hR.1, hR.2.1, hR.2.2.1, hR.2.2.2.1, Or.inr ⟨hk, hc⟩⟩⟩
