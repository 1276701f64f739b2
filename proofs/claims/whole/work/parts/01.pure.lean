-- positions, rounds, tables: no walk yet
def cq_a (p : Nat) : Nat := p % 6
def cq_b (p : Nat) : Nat := p / 6 % 6
def cq_t (p : Nat) : Nat := p / 36 % 6
def cq_n (a b t m : Nat) : Nat := a + 6 * b + 36 * t + 216 * m
def cq_y (p : Nat) : Nat := ((cq_a p * 6 + cq_b p) * 6 + cq_t p) * 2 + p / 216
def cq_x (q : Nat) : Nat := cq_n (q / 72) (q / 12 % 6) (q / 2 % 6) (q % 2)
theorem cq_xy : ∀ p, p < 432 → cq_x (cq_y p) = p := by decide +kernel
theorem cq_yx : ∀ q, q < 432 → cq_y (cq_x q) = q := by decide +kernel
theorem cq_xlt : ∀ q, q < 432 → cq_x q < 432 := by decide +kernel
theorem cq_ylt : ∀ p, p < 432 → cq_y p < 432 := by decide +kernel

-- the mover and the other side
def cq_mv (p : Nat) : Int32 := if 216 ≤ p then 2 else 1
def cq_ot (p : Nat) : Int32 := if 216 ≤ p then 1 else 2
theorem cq_mo (p : Nat) : cq_mv p ≠ cq_ot p ∧ cq_mv p ≠ 0 ∧ cq_ot p ≠ 0 := by
  by_cases h : 216 ≤ p
  · simp only [cq_mv, cq_ot, h, if_true]; decide
  · simp only [cq_mv, cq_ot, h, if_false]; decide

-- q is won by v, and that was settled before round r
def cq_G (W L : Nat → Int32) (r v : Int32) (q : Nat) : Prop := W q = v ∧ L q < r

-- what follows at p in round r
def cq_FO (A : Nat → Nat → Option Nat) (W L : Nat → Int32) (p : Nat) (r v : Int32) : Prop :=
  (v = cq_mv p ∧ ∃ c q, c < 13 ∧ A p c = some q ∧ cq_G W L r (cq_mv p) q) ∨
  (v = cq_ot p ∧ ∀ c q, c < 13 → A p c = some q → cq_G W L r (cq_ot p) q) ∨
  (v = 0 ∧ (∀ c q, c < 13 → A p c = some q → ¬ cq_G W L r (cq_mv p) q) ∧
    ∃ c q, c < 13 ∧ A p c = some q ∧ ¬ cq_G W L r (cq_ot p) q)

theorem cq_FOex (A : Nat → Nat → Option Nat) (W L : Nat → Int32) (p : Nat) (r : Int32) : ∃ v, cq_FO A W L p r v := by
  by_cases h1 : ∃ c q, c < 13 ∧ A p c = some q ∧ cq_G W L r (cq_mv p) q
  · exact ⟨_, Or.inl ⟨rfl, h1⟩⟩
  · by_cases h2 : ∀ c q, c < 13 → A p c = some q → cq_G W L r (cq_ot p) q
    · exact ⟨_, Or.inr (Or.inl ⟨rfl, h2⟩)⟩
    · refine ⟨0, Or.inr (Or.inr ⟨rfl, fun c q hc hq hg => h1 ⟨c, q, hc, hq, hg⟩, ?_⟩)⟩
      exact Classical.byContradiction fun hn =>
        h2 fun c q hc hq => Classical.byContradiction fun hg => hn ⟨c, q, hc, hq, hg⟩

theorem cq_Gx {W L : Nat → Int32} {r : Int32} {p q : Nat} (h : cq_G W L r (cq_mv p) q) (h' : cq_G W L r (cq_ot p) q) : False :=
  (cq_mo p).1 (h.1.symm.trans h'.1)

theorem cq_FOun {A : Nat → Nat → Option Nat} {W L : Nat → Int32} {p : Nat} {r v v' : Int32} (h : cq_FO A W L p r v) (h' : cq_FO A W L p r v') : v = v' := by
  rcases h with ⟨e, c, q, hc, hq, hg⟩ | ⟨e, h⟩ | ⟨e, h, c, q, hc, hq, hg⟩
  · rcases h' with ⟨e', _⟩ | ⟨_, h'⟩ | ⟨_, h', _⟩
    · rw [e, e']
    · exact (cq_Gx hg (h' c q hc hq)).elim
    · exact (h' c q hc hq hg).elim
  · rcases h' with ⟨_, c', q', hc', hq', hg'⟩ | ⟨e', _⟩ | ⟨_, _, c', q', hc', hq', hg'⟩
    · exact (cq_Gx hg' (h c' q' hc' hq')).elim
    · rw [e, e']
    · exact (hg' (h c' q' hc' hq')).elim
  · rcases h' with ⟨_, c', q', hc', hq', hg'⟩ | ⟨_, h'⟩ | ⟨e', _⟩
    · exact (h c' q' hc' hq' hg').elim
    · exact (hg (h' c q hc hq)).elim
    · rw [e, e']

-- what counts of a table: who has won, settled before the round
def cq_Eq (W L : Nat → Int32) (r : Int32) (W' L' : Nat → Int32) (r' : Int32) : Prop :=
  ∀ q, q < 432 → ∀ v : Int32, v ≠ 0 → (cq_G W L r v q ↔ cq_G W' L' r' v q)

theorem cq_FOcg {A : Nat → Nat → Option Nat} {W L W' L' : Nat → Int32} {p : Nat} {r r' v : Int32}
    (hA : ∀ c q, A p c = some q → q < 432) (E : cq_Eq W L r W' L' r') (h : cq_FO A W L p r v) : cq_FO A W' L' p r' v := by
  have hm := (cq_mo p).2.1
  have ho := (cq_mo p).2.2
  rcases h with ⟨e, c, q, hc, hq, hg⟩ | ⟨e, h⟩ | ⟨e, h, c, q, hc, hq, hg⟩
  · exact Or.inl ⟨e, c, q, hc, hq, (E q (hA c q hq) _ hm).mp hg⟩
  · exact Or.inr (Or.inl ⟨e, fun c q hc hq => (E q (hA c q hq) _ ho).mp (h c q hc hq)⟩)
  · exact Or.inr (Or.inr ⟨e, fun c q hc hq hg => h c q hc hq ((E q (hA c q hq) _ hm).mpr hg), c, q, hc, hq,
      fun hg' => hg ((E q (hA c q hq) _ ho).mpr hg')⟩)

noncomputable def cq_fo (A : Nat → Nat → Option Nat) (W L : Nat → Int32) (p : Nat) (r : Int32) : Int32 := Classical.choose (cq_FOex A W L p r)
theorem cq_foS (A : Nat → Nat → Option Nat) (W L : Nat → Int32) (p : Nat) (r : Int32) : cq_FO A W L p r (cq_fo A W L p r) := Classical.choose_spec (cq_FOex A W L p r)
theorem cq_fo3 (A : Nat → Nat → Option Nat) (W L : Nat → Int32) (p : Nat) (r : Int32) : cq_fo A W L p r = 0 ∨ cq_fo A W L p r = 1 ∨ cq_fo A W L p r = 2 := by
  have h := cq_foS A W L p r
  generalize cq_fo A W L p r = v at h
  rcases h with ⟨e, _⟩ | ⟨e, _⟩ | ⟨e, _⟩
  · by_cases h : 216 ≤ p
    · simp only [cq_mv, h, if_true] at e; exact Or.inr (Or.inr e)
    · simp only [cq_mv, h, if_false] at e; exact Or.inr (Or.inl e)
  · by_cases h : 216 ≤ p
    · simp only [cq_ot, h, if_true] at e; exact Or.inr (Or.inl e)
    · simp only [cq_ot, h, if_false] at e; exact Or.inr (Or.inr e)
  · exact Or.inl e

-- a round over a table, all at once
noncomputable def cq_sW (A : Nat → Nat → Option Nat) (W L : Nat → Int32) (r : Nat) : Nat → Int32 :=
  fun p => if p < 432 ∧ W p = 0 then cq_fo A W L p (nI r) else W p
noncomputable def cq_sL (A : Nat → Nat → Option Nat) (W L : Nat → Int32) (r : Nat) : Nat → Int32 :=
  fun p => if p < 432 ∧ W p = 0 ∧ cq_fo A W L p (nI r) ≠ 0 then nI r else L p
noncomputable def cq_T (A : Nat → Nat → Option Nat) (W0 L0 : Nat → Int32) : Nat → (Nat → Int32) × (Nat → Int32)
  | 0 => (W0, L0)
  | r + 1 => (cq_sW A (cq_T A W0 L0 r).1 (cq_T A W0 L0 r).2 r, cq_sL A (cq_T A W0 L0 r).1 (cq_T A W0 L0 r).2 r)

-- a table in which the rounds below r have been done
def cq_Ok (W L : Nat → Int32) (r : Nat) : Prop :=
  ∀ p, p < 432 → (W p = 0 ∨ W p = 1 ∨ W p = 2) ∧ (W p = 0 → L p = -3) ∧ (W p ≠ 0 → ∃ l, (l < r ∨ l = 0) ∧ L p = nI l)

-- in place: each entry is the old one or the new one
theorem cq_mix {A : Nat → Nat → Option Nat} {W L W' L' : Nat → Int32} {r : Nat}
    (h : ∀ q, q < 432 → (W' q = W q ∧ L' q = L q) ∨ (W' q = cq_sW A W L r q ∧ L' q = cq_sL A W L r q)) :
    cq_Eq W' L' (nI r) W L (nI r) := by
  intro q hq v hv
  rcases h q hq with ⟨e1, e2⟩ | ⟨e1, e2⟩
  · unfold cq_G; rw [e1, e2]
  · unfold cq_G
    rw [e1, e2]
    unfold cq_sW cq_sL
    by_cases z : W q = 0
    · by_cases f : cq_fo A W L q (nI r) = 0
      · simp [hq, z, f]
      · simp only [hq, z, f, true_and, ne_eq, not_false_eq_true, and_self, if_true]
        constructor
        · rintro ⟨_, h⟩; exact (Int32.lt_irrefl h).elim
        · rintro ⟨h, _⟩; exact (hv h.symm).elim
    · simp [z]

theorem cq_sw1 {A : Nat → Nat → Option Nat} {W L : Nat → Int32} {r p : Nat} (z : W p ≠ 0) : cq_sW A W L r p = W p ∧ cq_sL A W L r p = L p :=
  ⟨if_neg fun h => z h.2, if_neg fun h => z h.2.1⟩
theorem cq_sw2 {A : Nat → Nat → Option Nat} {W L : Nat → Int32} {r p : Nat} (hp : p < 432) (z : W p = 0) (f : cq_fo A W L p (nI r) ≠ 0) : cq_sW A W L r p = cq_fo A W L p (nI r) ∧ cq_sL A W L r p = nI r :=
  ⟨if_pos ⟨hp, z⟩, if_pos ⟨hp, z, f⟩⟩
theorem cq_sw3 {A : Nat → Nat → Option Nat} {W L : Nat → Int32} {r p : Nat} (hp : p < 432) (z : W p = 0) (f : cq_fo A W L p (nI r) = 0) : cq_sW A W L r p = 0 ∧ cq_sL A W L r p = L p :=
  ⟨(if_pos ⟨hp, z⟩).trans f, if_neg fun h => h.2.2 f⟩
theorem cq_okS {A : Nat → Nat → Option Nat} {W L : Nat → Int32} {r : Nat} (h : cq_Ok W L r) : cq_Ok (cq_sW A W L r) (cq_sL A W L r) (r + 1) := by
  intro p hp
  obtain ⟨h1, h2, h3⟩ := h p hp
  by_cases z : W p = 0
  · by_cases f : cq_fo A W L p (nI r) = 0
    · obtain ⟨e1, e2⟩ := cq_sw3 hp z f
      rw [e1, e2]
      exact ⟨Or.inl rfl, fun _ => h2 z, fun h => (h rfl).elim⟩
    · obtain ⟨e1, e2⟩ := cq_sw2 hp z f
      rw [e1, e2]
      exact ⟨cq_fo3 A W L p (nI r), fun h => (f h).elim, fun _ => ⟨r, Or.inl (by omega), rfl⟩⟩
  · obtain ⟨e1, e2⟩ := cq_sw1 (A := A) (L := L) (r := r) z
    rw [e1, e2]
    refine ⟨h1, h2, fun h => ?_⟩
    obtain ⟨l, hl, e⟩ := h3 h
    exact ⟨l, by omega, e⟩

theorem cq_okT {A : Nat → Nat → Option Nat} {W0 L0 : Nat → Int32} (h : cq_Ok W0 L0 0) : ∀ r, cq_Ok (cq_T A W0 L0 r).1 (cq_T A W0 L0 r).2 r
  | 0 => h
  | r + 1 => cq_okS (cq_okT h r)

-- a round (not round 0) that changes nothing is followed by one that changes nothing
theorem cq_stab1 {A : Nat → Nat → Option Nat} {W L : Nat → Int32} {r : Nat} (hA : ∀ p c q, p < 432 → A p c = some q → q < 432)
    (ok : cq_Ok W L r) (h0 : 0 < r) (hr : r + 1 < 2 ^ 31) (h : ∀ p, p < 432 → W p = 0 → cq_fo A W L p (nI r) = 0) :
    ∀ p, p < 432 → W p = 0 → cq_fo A W L p (nI (r + 1)) = 0 := by
  intro p hp z
  have e : cq_Eq W L (nI r) W L (nI (r + 1)) := by
    intro q hq v hv
    unfold cq_G
    by_cases zq : W q = 0
    · rw [zq]
      exact ⟨fun h => (hv h.1.symm).elim, fun h => (hv h.1.symm).elim⟩
    · obtain ⟨l, hl, el⟩ := (ok q hq).2.2 zq
      rw [el, nI_ltI (by omega) (by omega), nI_ltI (by omega) (by omega)]
      exact ⟨fun h => ⟨h.1, by omega⟩, fun h => ⟨h.1, by omega⟩⟩
  have s := cq_FOcg (A := A) (p := p) (fun c q hq => hA p c q hp hq) e (cq_foS A W L p (nI r))
  rw [h p hp z] at s
  exact cq_FOun (cq_foS A W L p (nI (r + 1))) s

-- a round settles nothing: the table stays the same function
theorem cq_same {A : Nat → Nat → Option Nat} {W L : Nat → Int32} {r : Nat} (h : ∀ p, p < 432 → W p = 0 → cq_fo A W L p (nI r) = 0) :
    cq_sW A W L r = W ∧ cq_sL A W L r = L := by
  constructor
  · funext p
    unfold cq_sW
    split
    · rename_i c; rw [h p c.1 c.2, c.2]
    · rfl
  · funext p
    unfold cq_sL
    split
    · rename_i c; exact (c.2.2 (h p c.1 c.2.1)).elim
    · rfl

-- round r of the table of a map settles nothing
def cq_No (A : Nat → Nat → Option Nat) (W0 L0 : Nat → Int32) (r : Nat) : Prop :=
  ∀ p, p < 432 → (cq_T A W0 L0 r).1 p = 0 → cq_fo A (cq_T A W0 L0 r).1 (cq_T A W0 L0 r).2 p (nI r) = 0

theorem cq_noT {A : Nat → Nat → Option Nat} {W0 L0 : Nat → Int32} {r : Nat} (h : cq_No A W0 L0 r) : cq_T A W0 L0 (r + 1) = cq_T A W0 L0 r := by
  have s := cq_same h
  show (_, _) = _
  rw [s.1, s.2]

theorem cq_noS {A : Nat → Nat → Option Nat} {W0 L0 : Nat → Int32} {r : Nat} (hA : ∀ p c q, p < 432 → A p c = some q → q < 432)
    (ok : cq_Ok W0 L0 0) (h0 : 0 < r) (hr : r + 1 < 2 ^ 31) (h : cq_No A W0 L0 r) : cq_No A W0 L0 (r + 1) := by
  unfold cq_No
  rw [cq_noT h]
  exact cq_stab1 hA (cq_okT ok r) h0 hr h

theorem cq_stay {A : Nat → Nat → Option Nat} {W0 L0 : Nat → Int32} {r : Nat} (hA : ∀ p c q, p < 432 → A p c = some q → q < 432)
    (ok : cq_Ok W0 L0 0) (h0 : 0 < r) (h : cq_No A W0 L0 r) : ∀ d, r + d < 2 ^ 31 → cq_No A W0 L0 (r + d) ∧ cq_T A W0 L0 (r + d) = cq_T A W0 L0 r
  | 0, _ => ⟨h, rfl⟩
  | d + 1, hd => by
    obtain ⟨a, b⟩ := cq_stay hA ok h0 h d (by omega)
    exact ⟨cq_noS (r := r + d) hA ok (by omega) (by omega) a, (cq_noT a).trans b⟩

-- counting what is settled
def cq_cn (W : Nat → Int32) : Nat → Nat
  | 0 => 0
  | n + 1 => cq_cn W n + (if W n = 0 then 0 else 1)
theorem cq_cnle (W : Nat → Int32) : ∀ n, cq_cn W n ≤ n
  | 0 => Nat.le_refl 0
  | n + 1 => by
    have h := cq_cnle W n
    unfold cq_cn
    split <;> omega
theorem cq_cnm {W W' : Nat → Int32} : ∀ n, (∀ p, p < n → W p ≠ 0 → W' p ≠ 0) → cq_cn W n ≤ cq_cn W' n
  | 0, _ => Nat.le_refl 0
  | n + 1, h => by
    have i := cq_cnm (W := W) (W' := W') n (fun p hp => h p (by omega))
    have j := h n (by omega)
    unfold cq_cn
    by_cases a : W n = 0
    · simp only [a, if_true]; omega
    · simp only [a, j a, if_false]; omega
theorem cq_cnl {W W' : Nat → Int32} : ∀ n, (∀ p, p < n → W p ≠ 0 → W' p ≠ 0) → (∃ p, p < n ∧ W p = 0 ∧ W' p ≠ 0) → cq_cn W n < cq_cn W' n
  | 0, _, ⟨_, h, _⟩ => absurd h (Nat.not_lt_zero _)
  | n + 1, h, ⟨p, hp, z, z'⟩ => by
    have m := cq_cnm (W := W) (W' := W') n (fun p hp => h p (by omega))
    have j := h n (by omega)
    unfold cq_cn
    by_cases e : p = n
    · subst e
      simp only [z, z', if_true, if_false]; omega
    · have i := cq_cnl n (fun p hp => h p (by omega)) ⟨p, by omega, z, z'⟩
      by_cases a : W n = 0
      · simp only [a, if_true]; omega
      · simp only [a, j a, if_false]; omega

theorem cq_mono {A : Nat → Nat → Option Nat} {W L : Nat → Int32} {r p : Nat} (h : W p ≠ 0) : cq_sW A W L r p = W p := by
  unfold cq_sW; simp [h]

theorem cq_more {A : Nat → Nat → Option Nat} {W0 L0 : Nat → Int32} {r : Nat} (h : ¬ cq_No A W0 L0 r) :
    cq_cn (cq_T A W0 L0 r).1 432 < cq_cn (cq_T A W0 L0 (r + 1)).1 432 := by
  apply cq_cnl
  · intro p _ hz
    show cq_sW _ _ _ _ p ≠ 0
    rw [cq_mono hz]; exact hz
  · apply Classical.byContradiction
    intro hn
    apply h
    intro p hp z
    apply Classical.byContradiction
    intro f
    refine hn ⟨p, hp, z, ?_⟩
    show cq_sW _ _ _ _ p ≠ 0
    unfold cq_sW
    simp only [hp, z, and_self, if_true]
    exact f

-- the table after 432 rounds is the last one
theorem cq_last {A : Nat → Nat → Option Nat} {W0 L0 : Nat → Int32} (hA : ∀ p c q, p < 432 → A p c = some q → q < 432)
    (ok : cq_Ok W0 L0 0) (h0 : W0 0 ≠ 0) : cq_T A W0 L0 433 = cq_T A W0 L0 432 := by
  apply Classical.byContradiction
  intro hn
  have no : ∀ r, 0 < r → r ≤ 432 → ¬ cq_No A W0 L0 r := by
    intro r h1 h2 h
    have s := (cq_stay hA ok h1 h (432 - r) (by omega)).1
    rw [show r + (432 - r) = 432 by omega] at s
    exact hn (cq_noT s)
  have k0 : ∀ r, (cq_T A W0 L0 r).1 0 ≠ 0 := by
    intro r
    induction r with
    | zero => exact h0
    | succ r ih =>
      show cq_sW _ _ _ _ 0 ≠ 0
      rw [cq_mono ih]; exact ih
  have k : ∀ r, r ≤ 432 → r + 1 ≤ cq_cn (cq_T A W0 L0 (r + 1)).1 432 := by
    intro r
    induction r with
    | zero =>
      intro _
      have m := cq_cnl (W := fun _ => 0) (W' := (cq_T A W0 L0 (0 + 1)).1) 432 (fun p _ h => (h rfl).elim) ⟨0, by omega, rfl, k0 _⟩
      omega
    | succ r ih =>
      intro hr
      have m := cq_more (no (r + 1) (by omega) hr)
      have i := ih (by omega)
      omega
  have a := k 432 (by omega)
  have b := cq_cnle (cq_T A W0 L0 (432 + 1)).1 432
  omega

-- where both loops end
theorem cq_end {A : Nat → Nat → Option Nat} {W0 L0 : Nat → Int32} (hA : ∀ p c q, p < 432 → A p c = some q → q < 432)
    (ok : cq_Ok W0 L0 0) {r : Nat} (h1 : 0 < r) (h2 : r ≤ 432) (h : cq_No A W0 L0 r) : cq_T A W0 L0 (r + 1) = cq_T A W0 L0 433 := by
  have s := (cq_stay hA ok h1 h (433 - r) (by omega)).2
  rw [show r + (433 - r) = 433 by omega] at s
  rw [cq_noT h, s]
