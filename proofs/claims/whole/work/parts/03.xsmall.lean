-- the class's small methods
theorem cx_dr {p d : Nat} (h : p < 432) (h0 : 0 < d) (hd : d < 433) : nI p / nI d - nI p / nI d / nI 6 * nI 6 = nI (p / d % 6) := by
  have hl : p / d < 432 := Nat.lt_of_le_of_lt (Nat.div_le_self p d) h
  rw [pk_div (by omega) h0 (by omega), pk_rem (by omega) (by omega) (by omega)]
theorem cx_pA {post : Int32 → Prop} {p : Nat} (h : p < 432) (k : post (nI (cq_a p))) : wpX_placeOfA post (nI p) := by
  have e : nI p / 1 - nI p / 1 / 6 * 6 = nI (cq_a p) := (cx_dr (d := 1) h (by omega) (by omega)).trans (by rw [Nat.div_one]; rfl)
  refine ⟨by decide, by decide, ?_⟩
  rw [e]; exact k
theorem cx_pB {post : Int32 → Prop} {p : Nat} (h : p < 432) (k : post (nI (cq_b p))) : wpX_placeOfB post (nI p) := by
  have e : nI p / 6 - nI p / 6 / 6 * 6 = nI (cq_b p) := cx_dr (d := 6) h (by omega) (by omega)
  refine ⟨by decide, by decide, ?_⟩
  rw [e]; exact k
theorem cx_pT {post : Int32 → Prop} {p : Nat} (h : p < 432) (k : post (nI (cq_t p))) : wpX_placeOfThief post (nI p) := by
  have e : nI p / 36 - nI p / 36 / 6 * 6 = nI (cq_t p) := cx_dr (d := 36) h (by omega) (by omega)
  refine ⟨by decide, by decide, ?_⟩
  rw [e]; exact k
theorem cx_th {post : Int32 → Prop} {p : Nat} (h : p < 432) (k0 : p < 216 → post 0) (k1 : 216 ≤ p → post 1) : wpX_thiefIsToMove post (nI p) :=
  pk_lt p 216 k0 k1
theorem cx_ipn {post : Int32 → Prop} {v : Int32} (h : v < 0 ∨ nI 6 ≤ v) (k : post 0) : wpX_isPlace post v := by
  by_cases z : v < 0
  · exact br_t z k
  · exact br_f z (br_t (h.resolve_left z) k)
theorem cx_ip {post : Int32 → Prop} {j : Nat} (h : j < 6) (k : post 1) : wpX_isPlace post (nI j) :=
  br_f (nI_pos (by omega)) (br_f (nI_ge (b := 6) h (by decide)) k)
theorem cx_nu {post : Int32 → Prop} {a b t m : Nat} (hm : m < 2) {f : Int32} (hf : f = nI m) (k : post (nI (cq_n a b t m))) : wpX_numberOf post (nI a) (nI b) (nI t) f := by
  have e : 1 * nI a + 6 * nI b + 36 * nI t = nI (a + 6 * b + 36 * t) := by
    rw [show (1 : Int32) = nI 1 from rfl, show (6 : Int32) = nI 6 from rfl, show (36 : Int32) = nI 36 from rfl, pk_mul, pk_mul, pk_mul, nI_add, nI_add, Nat.one_mul]
  refine nm_r e ?_
  have hm' : m = 0 ∨ m = 1 := by omega
  rcases hm' with rfl | rfl
  · exact br_t hf k
  · refine br_f (by rw [hf]; decide) ?_
    rw [show (216 : Int32) = nI 216 from rfl, nI_add]
    exact k
section
variable {g w cu : Int32} {D E aW aL : Nat → Int32}
theorem cx_wo {post : Int32 → Prop} {p : Nat} (h : p < 432) (k : post (cq_W0 E p)) : wpX_winnerIfOver post (g, w, cu, D, E, aW, aL) (nI p) := by
  have ha := cq_al p
  have hb := cq_bl p
  have ht := cq_tl p
  unfold cq_W0 at k
  unfold wpX_winnerIfOver
  dsimp only
  refine cx_pT h (cx_pA h (pk_eq (cq_t p) (cq_a p) (fun e => ?_) (fun e => cx_pB h (pk_eq (cq_t p) (cq_b p) (fun e' => ?_) (fun e' => ⟨pk_in (cq_t p) 6 ht, ?_⟩)))))
  · rw [if_pos (Or.inl e)] at k; exact k
  · rw [if_pos (Or.inr e')] at k; exact k
  · rw [if_neg (fun z => z.elim e e')] at k
    rw [nI_clamp (by omega)]
    refine br_c (fun z => ?_) (fun z => ?_)
    · rw [if_pos z] at k; exact k
    · rw [if_neg z] at k; exact k
theorem cx_108 {post : Int32 → Prop} {p c d : Nat} {x5 : Int32} (h : p < 432) (hd : 0 < d) (hd' : d < 433) (hc : c < 13)
    (k0 : D (p / d % 6 * 6 + c % 6) = 0 → post (-1)) (k1 : ¬ D (p / d % 6 * 6 + c % 6) = 0 → post (x5 + (nI (c % 6) - nI (p / d % 6)) * nI d)) :
    wX_positionAfter_108 post (nI p) (nI c) x5 (nI d) g w cu D E aW aL := by
  have hl : p / d % 6 < 6 := Nat.mod_lt _ (by decide)
  have hl' : c % 6 < 6 := Nat.mod_lt _ (by decide)
  have e : nI (p / d % 6) * 6 + nI (c % 6) = nI (p / d % 6 * 6 + c % 6) := by
    rw [show (6 : Int32) = nI 6 from rfl, pk_mul, nI_add]
  have e9 : nI c - nI c / 6 * 6 = nI (c % 6) := pk_rem (d := 6) (by omega) (by omega) (by omega)
  refine ⟨nI_ne0 hd (by omega), by decide, nm_r (cx_dr h hd hd') ⟨by decide, nm_r e9 ?_⟩⟩
  rw [e, nI_clamp (by omega)]
  exact ⟨vp_in_nI (by omega) (by omega), br_c k0 k1⟩
theorem cx_r1 (A B T C : Int32) : A + 6 * B + 36 * T + 216 + (C - A) * 1 = C + 6 * B + 36 * T + 216 := by grind
theorem cx_r6 (A B T C : Int32) : A + 6 * B + 36 * T + 216 + (C - B) * 6 = A + 6 * C + 36 * T + 216 := by grind
theorem cx_r36 (A B T C : Int32) : A + 6 * B + 36 * T + 216 - 216 + (C - T) * 36 = A + 6 * B + 36 * C := by grind
theorem cx_e0 (a b t : Nat) : nI (cq_n a b t 0) = nI a + 6 * nI b + 36 * nI t := by
  rw [show (6 : Int32) = nI 6 from rfl, show (36 : Int32) = nI 36 from rfl, pk_mul, pk_mul, nI_add, nI_add]
  rfl
theorem cx_e1 (a b t : Nat) : nI (cq_n a b t 1) = nI a + 6 * nI b + 36 * nI t + 216 := by
  rw [show (6 : Int32) = nI 6 from rfl, show (36 : Int32) = nI 36 from rfl, show (216 : Int32) = nI 216 from rfl, pk_mul, pk_mul, nI_add, nI_add, nI_add]
  rfl
theorem cx_p0 {p : Nat} (h : p < 216) : nI p = nI (cq_a p) + 6 * nI (cq_b p) + 36 * nI (cq_t p) := by
  rw [← cx_e0]
  have e := cq_np p (by omega)
  rw [show p / 216 = 0 by omega] at e
  rw [e]
theorem cx_p1 {p : Nat} (h : 216 ≤ p) (h' : p < 432) : nI p = nI (cq_a p) + 6 * nI (cq_b p) + 36 * nI (cq_t p) + 216 := by
  rw [← cx_e1]
  have e := cq_np p h'
  rw [show p / 216 = 1 by omega] at e
  rw [e]
theorem cx_af {post : Int32 → Prop} {p c : Nat} (h : p < 432) (hc : c < 13) (kn : cq_A D g w p c = none → post (-1))
    (ks : ∀ q, cq_A D g w p c = some q → post (nI q)) : wpX_positionAfter post (g, w, cu, D, E, aW, aL) (nI p) (nI c) := by
  have n0 : ¬ nI c < 0 := nI_pos (by omega)
  unfold wpX_positionAfter
  dsimp only
  unfold cq_A at kn ks
  refine cx_th h (fun hp => br_t rfl (br_t rfl ?_)) (fun hp => br_f (by decide) (br_f (by decide) ?_))
  · have hn : ¬ 216 ≤ p := by omega
    rw [if_neg hn] at kn
    simp only [if_neg hn] at ks
    refine pk_eq c 12 (fun e => br_t rfl ?_) (fun e => br_f n0 ?_)
    · rw [if_pos e] at kn
      simp only [if_pos e] at ks
      refine br_c (fun z => ?_) (fun z => ?_)
      · exact kn (if_pos z)
      · have k := ks _ (if_neg z)
        rw [cx_e1] at k
        rw [cx_p0 hp]; exact k
    · rw [if_neg e] at kn
      simp only [if_neg e] at ks
      refine pk_le c 11 (fun l => pk_le 6 c (fun l6 => br_t rfl ?_) (fun l6 => br_t rfl ?_)) (fun l => absurd l (by omega))
      · have n6 : ¬ c < 6 := by omega
        have l12 : c < 12 := by omega
        rw [if_neg n6, if_pos l12] at kn
        simp only [if_neg n6, if_pos l12] at ks
        have e6 : c % 6 = c - 6 := by omega
        refine cx_108 (d := 6) h (by omega) (by omega) hc ?_ ?_
        · rw [e6]; exact fun z => kn (if_pos z)
        · rw [e6]
          intro z
          have k := ks _ (if_neg z)
          rw [cx_e1, ← cx_r6 (nI (cq_a p)) (nI (cq_b p)), ← cx_p0 hp] at k
          exact k
      · rw [if_pos l6] at kn
        simp only [if_pos l6] at ks
        have e6 : c % 6 = c := by omega
        refine cx_108 (d := 1) h (by omega) (by omega) hc ?_ ?_
        · rw [e6, Nat.div_one]; exact fun z => kn (if_pos z)
        · rw [e6, Nat.div_one]
          intro z
          have k := ks _ (if_neg z)
          rw [cx_e1, ← cx_r1 (nI (cq_a p)), ← cx_p0 hp] at k
          exact k
  · rw [if_pos hp] at kn
    simp only [if_pos hp] at ks
    refine pk_eq c 12 (fun e => br_f (by decide) ?_) (fun e => br_f n0 ?_)
    · rw [if_pos e] at kn
      simp only [if_pos e] at ks
      refine br_c (fun z => ?_) (fun z => ?_)
      · exact kn (if_pos z)
      · have k := ks _ (if_neg z)
        rw [cx_e0] at k
        rw [cx_p1 hp h, Int32.add_sub_cancel]; exact k
    · rw [if_neg e] at kn
      simp only [if_neg e] at ks
      refine pk_le c 5 (fun l => br_f (nI_ge (b := 6) (by omega) (by decide)) (br_f (by decide) ?_)) (fun l => ?_)
      · have l6 : c < 6 := by omega
        rw [if_pos l6] at kn
        simp only [if_pos l6] at ks
        have e6 : c % 6 = c := by omega
        refine cx_108 (d := 36) h (by omega) (by omega) hc ?_ ?_
        · rw [e6]; exact fun z => kn (if_pos z)
        · rw [e6]
          intro z
          have k := ks _ (if_neg z)
          rw [cx_e0, ← cx_r36 (nI (cq_a p)) (nI (cq_b p)) (nI (cq_t p)), ← cx_p1 hp h] at k
          exact k
      · rw [if_neg (show ¬ c < 6 by omega)] at kn
        exact kn rfl
theorem cx_afx {post : Int32 → Prop} {p : Nat} {v : Int32} (h : p < 432) (hv : v < 0 ∨ nI 13 ≤ v) (k : post (-1)) :
    wpX_positionAfter post (g, w, cu, D, E, aW, aL) (nI p) v := by
  have n12 : ¬ v = 12 := by
    rintro rfl
    exact absurd hv (by decide)
  unfold wpX_positionAfter
  dsimp only
  refine cx_th h (fun hp => br_t rfl (br_t rfl (br_f n12 ?_))) (fun hp => br_f (by decide) (br_f (by decide) (br_f n12 ?_)))
  · by_cases z : v < 0
    · exact br_t z k
    · exact br_f z (br_f (fun l => absurd (Int32.le_trans (hv.resolve_left z) l) (by decide)) k)
  · by_cases z : v < 0
    · exact br_t z k
    · exact br_f z (br_f (fun l => absurd (Int32.le_trans (hv.resolve_left z) l) (by decide)) k)
end
