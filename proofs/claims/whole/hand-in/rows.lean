section
-- rows of kit/rows/PURE-ROWS, pasted
theorem pk_us {f : Nat → Int32} {k : Nat} {x : Int32} : upd f k x k = x := if_pos rfl
theorem pk_un {f : Nat → Int32} {k j : Nat} {x : Int32} (h : j ≠ k) : upd f k x j = f j := if_neg h
theorem pk_sub {a b : Nat} (h : b ≤ a) : nI a - nI b = nI (a - b) := by
  obtain ⟨c, rfl⟩ : ∃ c, a = c + b := ⟨a - b, by omega⟩
  rw [← nI_add, Int32.add_sub_cancel, Nat.add_sub_cancel]
theorem pk_mul (a b : Nat) : nI a * nI b = nI (a * b) := (Int32.ofNat_mul a b).symm
theorem pk_div {a d : Nat} (ha : a < 2 ^ 31) (h0 : 0 < d) (hd : d < 2 ^ 31) : nI a / nI d = nI (a / d) := by
  apply Int32.toInt_inj.mp
  rw [lg_idiv_nonneg (by rw [nI_toInt ha]; omega) (by rw [nI_toInt hd]; omega), nI_toInt ha, nI_toInt hd, nI_toInt (Nat.lt_of_le_of_lt (Nat.div_le_self a d) ha)]
  first | rfl | exact (Int.natCast_ediv _ _).symm
theorem pk_rem {a d : Nat} (ha : a < 2 ^ 31) (h0 : 0 < d) (hd : d < 2 ^ 31) : nI a - nI a / nI d * nI d = nI (a % d) := by
  rw [pk_div ha h0 hd, pk_mul, pk_sub (Nat.div_mul_le_self a d)]
  exact congrArg nI (by have := Nat.div_add_mod' a d; omega)
theorem pk_ix (x : Int32) {n : Nat} (hn : n < 2 ^ 31) : x < 0 ∨ nI n ≤ x ∨ ∃ j : Nat, j < n ∧ x = nI j := by
  by_cases h : x < 0
  · exact Or.inl h
  · obtain ⟨j, hj, rfl⟩ := nI_of h
    by_cases h2 : j < n
    · exact Or.inr (Or.inr ⟨j, h2, rfl⟩)
    · exact Or.inr (Or.inl (nI_le (by omega) hj))
theorem pk_le {x y : Int32} {A B : Prop} (a b : Nat) (f : a ≤ b → A) (g : b < a → B) (hx : x = nI a := by rfl) (hy : y = nI b := by rfl) (ha : a < 2 ^ 31 := by omega) (hb : b < 2 ^ 31 := by omega) : (x ≤ y → A) ∧ (¬ x ≤ y → B) := by
  subst hx hy
  rw [nI_leI ha hb]
  exact ⟨f, fun z => g (by omega)⟩
theorem pk_lt {x y : Int32} {A B : Prop} (a b : Nat) (f : a < b → A) (g : b ≤ a → B) (hx : x = nI a := by rfl) (hy : y = nI b := by rfl) (ha : a < 2 ^ 31 := by omega) (hb : b < 2 ^ 31 := by omega) : (x < y → A) ∧ (¬ x < y → B) := by
  subst hx hy
  rw [nI_ltI ha hb]
  exact ⟨f, fun z => g (by omega)⟩
theorem pk_eq {x y : Int32} {A B : Prop} (a b : Nat) (f : a = b → A) (g : a ≠ b → B) (hx : x = nI a := by rfl) (hy : y = nI b := by rfl) (ha : a < 2 ^ 31 := by omega) (hb : b < 2 ^ 31 := by omega) : (x = y → A) ∧ (¬ x = y → B) := by
  subst hx hy
  rw [nI_eq ha hb]
  exact ⟨f, g⟩
theorem pk_in {x : Int32} (n N : Nat) (h : n < N) (hx : x = nI n := by rfl) (hN : N < 2 ^ 31 := by omega) : vp_in x N := by
  subst hx
  exact vp_in_nI h hN
theorem pk_cl {x : Int32} (n : Nat) (hx : x = nI n := by rfl) (h : n < 2 ^ 31 := by omega) : x.toNatClampNeg = n := by
  subst hx
  exact nI_clamp h
end
section
-- positions, rounds, tables: no walk yet
def cq_a (p : Nat) : Nat := p % 6
def cq_b (p : Nat) : Nat := p / 6 % 6
def cq_t (p : Nat) : Nat := p / 36 % 6
def cq_n (a b t m : Nat) : Nat := a + 6 * b + 36 * t + 216 * m
def cq_y (p : Nat) : Nat := ((cq_a p * 6 + cq_b p) * 6 + cq_t p) * 2 + p / 216
def cq_x (q : Nat) : Nat := cq_n (q / 72) (q / 12 % 6) (q / 2 % 6) (q % 2)
theorem cq_xy : ∀ p, p < 432 → cq_x (cq_y p) = p := by decide +kernel
theorem cq_yx : ∀ q, q < 432 → cq_y (cq_x q) = q := by decide +kernel
theorem cq_xlt : ∀ q, q < 432 → cq_x q < 432 := by decide +kernel
theorem cq_ylt : ∀ p, p < 432 → cq_y p < 432 := by decide +kernel

-- the mover and the other side
def cq_mv (p : Nat) : Int32 := if 216 ≤ p then 2 else 1
def cq_ot (p : Nat) : Int32 := if 216 ≤ p then 1 else 2
theorem cq_mo (p : Nat) : cq_mv p ≠ cq_ot p ∧ cq_mv p ≠ 0 ∧ cq_ot p ≠ 0 := by
  by_cases h : 216 ≤ p
  · simp only [cq_mv, cq_ot, h, if_true]; decide
  · simp only [cq_mv, cq_ot, h, if_false]; decide

-- q is won by v, and that was settled before round r
def cq_G (W L : Nat → Int32) (r v : Int32) (q : Nat) : Prop := W q = v ∧ L q < r

-- what follows at p in round r
def cq_FO (A : Nat → Nat → Option Nat) (W L : Nat → Int32) (p : Nat) (r v : Int32) : Prop :=
  (v = cq_mv p ∧ ∃ c q, c < 13 ∧ A p c = some q ∧ cq_G W L r (cq_mv p) q) ∨
  (v = cq_ot p ∧ ∀ c q, c < 13 → A p c = some q → cq_G W L r (cq_ot p) q) ∨
  (v = 0 ∧ (∀ c q, c < 13 → A p c = some q → ¬ cq_G W L r (cq_mv p) q) ∧
    ∃ c q, c < 13 ∧ A p c = some q ∧ ¬ cq_G W L r (cq_ot p) q)

theorem cq_FOex (A : Nat → Nat → Option Nat) (W L : Nat → Int32) (p : Nat) (r : Int32) : ∃ v, cq_FO A W L p r v := by
  by_cases h1 : ∃ c q, c < 13 ∧ A p c = some q ∧ cq_G W L r (cq_mv p) q
  · exact ⟨_, Or.inl ⟨rfl, h1⟩⟩
  · by_cases h2 : ∀ c q, c < 13 → A p c = some q → cq_G W L r (cq_ot p) q
    · exact ⟨_, Or.inr (Or.inl ⟨rfl, h2⟩)⟩
    · refine ⟨0, Or.inr (Or.inr ⟨rfl, fun c q hc hq hg => h1 ⟨c, q, hc, hq, hg⟩, ?_⟩)⟩
      exact Classical.byContradiction fun hn =>
        h2 fun c q hc hq => Classical.byContradiction fun hg => hn ⟨c, q, hc, hq, hg⟩

theorem cq_Gx {W L : Nat → Int32} {r : Int32} {p q : Nat} (h : cq_G W L r (cq_mv p) q) (h' : cq_G W L r (cq_ot p) q) : False :=
  (cq_mo p).1 (h.1.symm.trans h'.1)

theorem cq_FOun {A : Nat → Nat → Option Nat} {W L : Nat → Int32} {p : Nat} {r v v' : Int32} (h : cq_FO A W L p r v) (h' : cq_FO A W L p r v') : v = v' := by
  rcases h with ⟨e, c, q, hc, hq, hg⟩ | ⟨e, h⟩ | ⟨e, h, c, q, hc, hq, hg⟩
  · rcases h' with ⟨e', _⟩ | ⟨_, h'⟩ | ⟨_, h', _⟩
    · rw [e, e']
    · exact (cq_Gx hg (h' c q hc hq)).elim
    · exact (h' c q hc hq hg).elim
  · rcases h' with ⟨_, c', q', hc', hq', hg'⟩ | ⟨e', _⟩ | ⟨_, _, c', q', hc', hq', hg'⟩
    · exact (cq_Gx hg' (h c' q' hc' hq')).elim
    · rw [e, e']
    · exact (hg' (h c' q' hc' hq')).elim
  · rcases h' with ⟨_, c', q', hc', hq', hg'⟩ | ⟨_, h'⟩ | ⟨e', _⟩
    · exact (h c' q' hc' hq' hg').elim
    · exact (hg (h' c q hc hq)).elim
    · rw [e, e']

-- what counts of a table: who has won, settled before the round
def cq_Eq (W L : Nat → Int32) (r : Int32) (W' L' : Nat → Int32) (r' : Int32) : Prop :=
  ∀ q, q < 432 → ∀ v : Int32, v ≠ 0 → (cq_G W L r v q ↔ cq_G W' L' r' v q)

theorem cq_FOcg {A : Nat → Nat → Option Nat} {W L W' L' : Nat → Int32} {p : Nat} {r r' v : Int32}
    (hA : ∀ c q, A p c = some q → q < 432) (E : cq_Eq W L r W' L' r') (h : cq_FO A W L p r v) : cq_FO A W' L' p r' v := by
  have hm := (cq_mo p).2.1
  have ho := (cq_mo p).2.2
  rcases h with ⟨e, c, q, hc, hq, hg⟩ | ⟨e, h⟩ | ⟨e, h, c, q, hc, hq, hg⟩
  · exact Or.inl ⟨e, c, q, hc, hq, (E q (hA c q hq) _ hm).mp hg⟩
  · exact Or.inr (Or.inl ⟨e, fun c q hc hq => (E q (hA c q hq) _ ho).mp (h c q hc hq)⟩)
  · exact Or.inr (Or.inr ⟨e, fun c q hc hq hg => h c q hc hq ((E q (hA c q hq) _ hm).mpr hg), c, q, hc, hq,
      fun hg' => hg ((E q (hA c q hq) _ ho).mpr hg')⟩)

noncomputable def cq_fo (A : Nat → Nat → Option Nat) (W L : Nat → Int32) (p : Nat) (r : Int32) : Int32 := Classical.choose (cq_FOex A W L p r)
theorem cq_foS (A : Nat → Nat → Option Nat) (W L : Nat → Int32) (p : Nat) (r : Int32) : cq_FO A W L p r (cq_fo A W L p r) := Classical.choose_spec (cq_FOex A W L p r)
theorem cq_fo3 (A : Nat → Nat → Option Nat) (W L : Nat → Int32) (p : Nat) (r : Int32) : cq_fo A W L p r = 0 ∨ cq_fo A W L p r = 1 ∨ cq_fo A W L p r = 2 := by
  have h := cq_foS A W L p r
  generalize cq_fo A W L p r = v at h
  rcases h with ⟨e, _⟩ | ⟨e, _⟩ | ⟨e, _⟩
  · by_cases h : 216 ≤ p
    · simp only [cq_mv, h, if_true] at e; exact Or.inr (Or.inr e)
    · simp only [cq_mv, h, if_false] at e; exact Or.inr (Or.inl e)
  · by_cases h : 216 ≤ p
    · simp only [cq_ot, h, if_true] at e; exact Or.inr (Or.inl e)
    · simp only [cq_ot, h, if_false] at e; exact Or.inr (Or.inr e)
  · exact Or.inl e

-- a round over a table, all at once
noncomputable def cq_sW (A : Nat → Nat → Option Nat) (W L : Nat → Int32) (r : Nat) : Nat → Int32 :=
  fun p => if p < 432 ∧ W p = 0 then cq_fo A W L p (nI r) else W p
noncomputable def cq_sL (A : Nat → Nat → Option Nat) (W L : Nat → Int32) (r : Nat) : Nat → Int32 :=
  fun p => if p < 432 ∧ W p = 0 ∧ cq_fo A W L p (nI r) ≠ 0 then nI r else L p
noncomputable def cq_T (A : Nat → Nat → Option Nat) (W0 L0 : Nat → Int32) : Nat → (Nat → Int32) × (Nat → Int32)
  | 0 => (W0, L0)
  | r + 1 => (cq_sW A (cq_T A W0 L0 r).1 (cq_T A W0 L0 r).2 r, cq_sL A (cq_T A W0 L0 r).1 (cq_T A W0 L0 r).2 r)

-- a table in which the rounds below r have been done
def cq_Ok (W L : Nat → Int32) (r : Nat) : Prop :=
  ∀ p, p < 432 → (W p = 0 ∨ W p = 1 ∨ W p = 2) ∧ (W p = 0 → L p = -3) ∧ (W p ≠ 0 → ∃ l, (l < r ∨ l = 0) ∧ L p = nI l)

-- in place: each entry is the old one or the new one
theorem cq_mix {A : Nat → Nat → Option Nat} {W L W' L' : Nat → Int32} {r : Nat}
    (h : ∀ q, q < 432 → (W' q = W q ∧ L' q = L q) ∨ (W' q = cq_sW A W L r q ∧ L' q = cq_sL A W L r q)) :
    cq_Eq W' L' (nI r) W L (nI r) := by
  intro q hq v hv
  rcases h q hq with ⟨e1, e2⟩ | ⟨e1, e2⟩
  · unfold cq_G; rw [e1, e2]
  · unfold cq_G
    rw [e1, e2]
    unfold cq_sW cq_sL
    by_cases z : W q = 0
    · by_cases f : cq_fo A W L q (nI r) = 0
      · simp [hq, z, f]
      · simp only [hq, z, f, true_and, ne_eq, not_false_eq_true, and_self, if_true]
        constructor
        · rintro ⟨_, h⟩; exact (Int32.lt_irrefl h).elim
        · rintro ⟨h, _⟩; exact (hv h.symm).elim
    · simp [z]

theorem cq_sw1 {A : Nat → Nat → Option Nat} {W L : Nat → Int32} {r p : Nat} (z : W p ≠ 0) : cq_sW A W L r p = W p ∧ cq_sL A W L r p = L p :=
  ⟨if_neg fun h => z h.2, if_neg fun h => z h.2.1⟩
theorem cq_sw2 {A : Nat → Nat → Option Nat} {W L : Nat → Int32} {r p : Nat} (hp : p < 432) (z : W p = 0) (f : cq_fo A W L p (nI r) ≠ 0) : cq_sW A W L r p = cq_fo A W L p (nI r) ∧ cq_sL A W L r p = nI r :=
  ⟨if_pos ⟨hp, z⟩, if_pos ⟨hp, z, f⟩⟩
theorem cq_sw3 {A : Nat → Nat → Option Nat} {W L : Nat → Int32} {r p : Nat} (hp : p < 432) (z : W p = 0) (f : cq_fo A W L p (nI r) = 0) : cq_sW A W L r p = 0 ∧ cq_sL A W L r p = L p :=
  ⟨(if_pos ⟨hp, z⟩).trans f, if_neg fun h => h.2.2 f⟩
theorem cq_okS {A : Nat → Nat → Option Nat} {W L : Nat → Int32} {r : Nat} (h : cq_Ok W L r) : cq_Ok (cq_sW A W L r) (cq_sL A W L r) (r + 1) := by
  intro p hp
  obtain ⟨h1, h2, h3⟩ := h p hp
  by_cases z : W p = 0
  · by_cases f : cq_fo A W L p (nI r) = 0
    · obtain ⟨e1, e2⟩ := cq_sw3 hp z f
      rw [e1, e2]
      exact ⟨Or.inl rfl, fun _ => h2 z, fun h => (h rfl).elim⟩
    · obtain ⟨e1, e2⟩ := cq_sw2 hp z f
      rw [e1, e2]
      exact ⟨cq_fo3 A W L p (nI r), fun h => (f h).elim, fun _ => ⟨r, Or.inl (by omega), rfl⟩⟩
  · obtain ⟨e1, e2⟩ := cq_sw1 (A := A) (L := L) (r := r) z
    rw [e1, e2]
    refine ⟨h1, h2, fun h => ?_⟩
    obtain ⟨l, hl, e⟩ := h3 h
    exact ⟨l, by omega, e⟩

theorem cq_okT {A : Nat → Nat → Option Nat} {W0 L0 : Nat → Int32} (h : cq_Ok W0 L0 0) : ∀ r, cq_Ok (cq_T A W0 L0 r).1 (cq_T A W0 L0 r).2 r
  | 0 => h
  | r + 1 => cq_okS (cq_okT h r)

-- a round (not round 0) that changes nothing is followed by one that changes nothing
theorem cq_stab1 {A : Nat → Nat → Option Nat} {W L : Nat → Int32} {r : Nat} (hA : ∀ p c q, p < 432 → A p c = some q → q < 432)
    (ok : cq_Ok W L r) (h0 : 0 < r) (hr : r + 1 < 2 ^ 31) (h : ∀ p, p < 432 → W p = 0 → cq_fo A W L p (nI r) = 0) :
    ∀ p, p < 432 → W p = 0 → cq_fo A W L p (nI (r + 1)) = 0 := by
  intro p hp z
  have e : cq_Eq W L (nI r) W L (nI (r + 1)) := by
    intro q hq v hv
    unfold cq_G
    by_cases zq : W q = 0
    · rw [zq]
      exact ⟨fun h => (hv h.1.symm).elim, fun h => (hv h.1.symm).elim⟩
    · obtain ⟨l, hl, el⟩ := (ok q hq).2.2 zq
      rw [el, nI_ltI (by omega) (by omega), nI_ltI (by omega) (by omega)]
      exact ⟨fun h => ⟨h.1, by omega⟩, fun h => ⟨h.1, by omega⟩⟩
  have s := cq_FOcg (A := A) (p := p) (fun c q hq => hA p c q hp hq) e (cq_foS A W L p (nI r))
  rw [h p hp z] at s
  exact cq_FOun (cq_foS A W L p (nI (r + 1))) s

-- a round settles nothing: the table stays the same function
theorem cq_same {A : Nat → Nat → Option Nat} {W L : Nat → Int32} {r : Nat} (h : ∀ p, p < 432 → W p = 0 → cq_fo A W L p (nI r) = 0) :
    cq_sW A W L r = W ∧ cq_sL A W L r = L := by
  constructor
  · funext p
    unfold cq_sW
    split
    · rename_i c; rw [h p c.1 c.2, c.2]
    · rfl
  · funext p
    unfold cq_sL
    split
    · rename_i c; exact (c.2.2 (h p c.1 c.2.1)).elim
    · rfl

-- round r of the table of a map settles nothing
def cq_No (A : Nat → Nat → Option Nat) (W0 L0 : Nat → Int32) (r : Nat) : Prop :=
  ∀ p, p < 432 → (cq_T A W0 L0 r).1 p = 0 → cq_fo A (cq_T A W0 L0 r).1 (cq_T A W0 L0 r).2 p (nI r) = 0

theorem cq_noT {A : Nat → Nat → Option Nat} {W0 L0 : Nat → Int32} {r : Nat} (h : cq_No A W0 L0 r) : cq_T A W0 L0 (r + 1) = cq_T A W0 L0 r := by
  have s := cq_same h
  show (_, _) = _
  rw [s.1, s.2]

theorem cq_noS {A : Nat → Nat → Option Nat} {W0 L0 : Nat → Int32} {r : Nat} (hA : ∀ p c q, p < 432 → A p c = some q → q < 432)
    (ok : cq_Ok W0 L0 0) (h0 : 0 < r) (hr : r + 1 < 2 ^ 31) (h : cq_No A W0 L0 r) : cq_No A W0 L0 (r + 1) := by
  unfold cq_No
  rw [cq_noT h]
  exact cq_stab1 hA (cq_okT ok r) h0 hr h

theorem cq_stay {A : Nat → Nat → Option Nat} {W0 L0 : Nat → Int32} {r : Nat} (hA : ∀ p c q, p < 432 → A p c = some q → q < 432)
    (ok : cq_Ok W0 L0 0) (h0 : 0 < r) (h : cq_No A W0 L0 r) : ∀ d, r + d < 2 ^ 31 → cq_No A W0 L0 (r + d) ∧ cq_T A W0 L0 (r + d) = cq_T A W0 L0 r
  | 0, _ => ⟨h, rfl⟩
  | d + 1, hd => by
    obtain ⟨a, b⟩ := cq_stay hA ok h0 h d (by omega)
    exact ⟨cq_noS (r := r + d) hA ok (by omega) (by omega) a, (cq_noT a).trans b⟩

-- counting what is settled
def cq_cn (W : Nat → Int32) : Nat → Nat
  | 0 => 0
  | n + 1 => cq_cn W n + (if W n = 0 then 0 else 1)
theorem cq_cnle (W : Nat → Int32) : ∀ n, cq_cn W n ≤ n
  | 0 => Nat.le_refl 0
  | n + 1 => by
    have h := cq_cnle W n
    unfold cq_cn
    split <;> omega
theorem cq_cnm {W W' : Nat → Int32} : ∀ n, (∀ p, p < n → W p ≠ 0 → W' p ≠ 0) → cq_cn W n ≤ cq_cn W' n
  | 0, _ => Nat.le_refl 0
  | n + 1, h => by
    have i := cq_cnm (W := W) (W' := W') n (fun p hp => h p (by omega))
    have j := h n (by omega)
    unfold cq_cn
    by_cases a : W n = 0
    · simp only [a, if_true]; omega
    · simp only [a, j a, if_false]; omega
theorem cq_cnl {W W' : Nat → Int32} : ∀ n, (∀ p, p < n → W p ≠ 0 → W' p ≠ 0) → (∃ p, p < n ∧ W p = 0 ∧ W' p ≠ 0) → cq_cn W n < cq_cn W' n
  | 0, _, ⟨_, h, _⟩ => absurd h (Nat.not_lt_zero _)
  | n + 1, h, ⟨p, hp, z, z'⟩ => by
    have m := cq_cnm (W := W) (W' := W') n (fun p hp => h p (by omega))
    have j := h n (by omega)
    unfold cq_cn
    by_cases e : p = n
    · subst e
      simp only [z, z', if_true, if_false]; omega
    · have i := cq_cnl n (fun p hp => h p (by omega)) ⟨p, by omega, z, z'⟩
      by_cases a : W n = 0
      · simp only [a, if_true]; omega
      · simp only [a, j a, if_false]; omega

theorem cq_mono {A : Nat → Nat → Option Nat} {W L : Nat → Int32} {r p : Nat} (h : W p ≠ 0) : cq_sW A W L r p = W p := by
  unfold cq_sW; simp [h]

theorem cq_more {A : Nat → Nat → Option Nat} {W0 L0 : Nat → Int32} {r : Nat} (h : ¬ cq_No A W0 L0 r) :
    cq_cn (cq_T A W0 L0 r).1 432 < cq_cn (cq_T A W0 L0 (r + 1)).1 432 := by
  apply cq_cnl
  · intro p _ hz
    show cq_sW _ _ _ _ p ≠ 0
    rw [cq_mono hz]; exact hz
  · apply Classical.byContradiction
    intro hn
    apply h
    intro p hp z
    apply Classical.byContradiction
    intro f
    refine hn ⟨p, hp, z, ?_⟩
    show cq_sW _ _ _ _ p ≠ 0
    unfold cq_sW
    simp only [hp, z, and_self, if_true]
    exact f

-- the table after 432 rounds is the last one
theorem cq_last {A : Nat → Nat → Option Nat} {W0 L0 : Nat → Int32} (hA : ∀ p c q, p < 432 → A p c = some q → q < 432)
    (ok : cq_Ok W0 L0 0) (h0 : W0 0 ≠ 0) : cq_T A W0 L0 433 = cq_T A W0 L0 432 := by
  apply Classical.byContradiction
  intro hn
  have no : ∀ r, 0 < r → r ≤ 432 → ¬ cq_No A W0 L0 r := by
    intro r h1 h2 h
    have s := (cq_stay hA ok h1 h (432 - r) (by omega)).1
    rw [show r + (432 - r) = 432 by omega] at s
    exact hn (cq_noT s)
  have k0 : ∀ r, (cq_T A W0 L0 r).1 0 ≠ 0 := by
    intro r
    induction r with
    | zero => exact h0
    | succ r ih =>
      show cq_sW _ _ _ _ 0 ≠ 0
      rw [cq_mono ih]; exact ih
  have k : ∀ r, r ≤ 432 → r + 1 ≤ cq_cn (cq_T A W0 L0 (r + 1)).1 432 := by
    intro r
    induction r with
    | zero =>
      intro _
      have m := cq_cnl (W := fun _ => 0) (W' := (cq_T A W0 L0 (0 + 1)).1) 432 (fun p _ h => (h rfl).elim) ⟨0, by omega, rfl, k0 _⟩
      omega
    | succ r ih =>
      intro hr
      have m := cq_more (no (r + 1) (by omega) hr)
      have i := ih (by omega)
      omega
  have a := k 432 (by omega)
  have b := cq_cnle (cq_T A W0 L0 (432 + 1)).1 432
  omega

-- where both loops end
theorem cq_end {A : Nat → Nat → Option Nat} {W0 L0 : Nat → Int32} (hA : ∀ p c q, p < 432 → A p c = some q → q < 432)
    (ok : cq_Ok W0 L0 0) {r : Nat} (h1 : 0 < r) (h2 : r ≤ 432) (h : cq_No A W0 L0 r) : cq_T A W0 L0 (r + 1) = cq_T A W0 L0 433 := by
  have s := (cq_stay hA ok h1 h (433 - r) (by omega)).2
  rw [show r + (433 - r) = 433 by omega] at s
  rw [cq_noT h, s]
end
section
-- numbers of positions, moves, the table of those over
theorem cq_al (p : Nat) : cq_a p < 6 := Nat.mod_lt _ (by decide)
theorem cq_bl (p : Nat) : cq_b p < 6 := Nat.mod_lt _ (by decide)
theorem cq_tl (p : Nat) : cq_t p < 6 := Nat.mod_lt _ (by decide)
theorem cq_nlt {a b t m : Nat} (ha : a < 6) (hb : b < 6) (ht : t < 6) (hm : m < 2) : cq_n a b t m < 432 := by unfold cq_n; omega
theorem cq_np : ∀ p, p < 432 → cq_n (cq_a p) (cq_b p) (cq_t p) (p / 216) = p := by decide +kernel
theorem cq_na {a b t m : Nat} (ha : a < 6) : cq_a (cq_n a b t m) = a := by unfold cq_a cq_n; omega
theorem cq_nb {a b t m : Nat} (ha : a < 6) (hb : b < 6) : cq_b (cq_n a b t m) = b := by unfold cq_b cq_n; omega
theorem cq_nt {a b t m : Nat} (ha : a < 6) (hb : b < 6) (ht : t < 6) : cq_t (cq_n a b t m) = t := by unfold cq_t cq_n; omega
theorem cq_nm {a b t m : Nat} (ha : a < 6) (hb : b < 6) (ht : t < 6) : cq_n a b t m / 216 = m := by unfold cq_n; omega
theorem cq_yn {a b t m : Nat} (ha : a < 6) (hb : b < 6) (ht : t < 6) : cq_y (cq_n a b t m) = ((a * 6 + b) * 6 + t) * 2 + m := by
  unfold cq_y
  rw [cq_na ha, cq_nb ha hb, cq_nt ha hb ht, cq_nm ha hb ht]
theorem cq_yinj {p q : Nat} (hp : p < 432) (hq : q < 432) (h : cq_y p = cq_y q) : p = q := by
  rw [← cq_xy p hp, ← cq_xy q hq, h]

-- the position after a move
def cq_A (D : Nat → Int32) (g w : Int32) (p c : Nat) : Option Nat :=
  if 216 ≤ p then
    if c = 12 then (if w = 0 then none else some (cq_n (cq_a p) (cq_b p) (cq_t p) 0))
    else if c < 6 then (if D (cq_t p * 6 + c) = 0 then none else some (cq_n (cq_a p) (cq_b p) c 0))
    else none
  else
    if c = 12 then (if g = 0 then none else some (cq_n (cq_a p) (cq_b p) (cq_t p) 1))
    else if c < 6 then (if D (cq_a p * 6 + c) = 0 then none else some (cq_n c (cq_b p) (cq_t p) 1))
    else if c < 12 then (if D (cq_b p * 6 + (c - 6)) = 0 then none else some (cq_n (cq_a p) (c - 6) (cq_t p) 1))
    else none

theorem cq_Al {D : Nat → Int32} {g w : Int32} (p c q : Nat) (h : cq_A D g w p c = some q) : q < 432 := by
  have ha := cq_al p
  have hb := cq_bl p
  have ht := cq_tl p
  unfold cq_A at h
  split at h
  · split at h
    · split at h
      · exact nomatch h
      · cases h; exact cq_nlt ha hb ht (by omega)
    · split at h
      · split at h
        · exact nomatch h
        · cases h; exact cq_nlt ha hb (by omega) (by omega)
      · exact nomatch h
  · split at h
    · split at h
      · exact nomatch h
      · cases h; exact cq_nlt ha hb ht (by omega)
    · split at h
      · split at h
        · exact nomatch h
        · cases h; exact cq_nlt (by omega) hb ht (by omega)
      · split at h
        · split at h
          · exact nomatch h
          · cases h; exact cq_nlt ha (by omega) ht (by omega)
        · exact nomatch h
theorem cq_AlN {D : Nat → Int32} {g w : Int32} : ∀ p c q, p < 432 → cq_A D g w p c = some q → q < 432 := fun p c q _ h => cq_Al p c q h

-- those over
def cq_W0 (E : Nat → Int32) (p : Nat) : Int32 := if cq_t p = cq_a p ∨ cq_t p = cq_b p then 1 else if E (cq_t p) = 0 then 0 else 2
def cq_L0 (E : Nat → Int32) (p : Nat) : Int32 := if cq_W0 E p = 0 then -3 else 0
theorem cq_W03 (E : Nat → Int32) (p : Nat) : cq_W0 E p = 0 ∨ cq_W0 E p = 1 ∨ cq_W0 E p = 2 := by
  unfold cq_W0
  split
  · exact Or.inr (Or.inl rfl)
  · split
    · exact Or.inl rfl
    · exact Or.inr (Or.inr rfl)
theorem cq_ok0 (E : Nat → Int32) : cq_Ok (cq_W0 E) (cq_L0 E) 0 := by
  intro p _
  refine ⟨cq_W03 E p, fun h => if_pos h, fun h => ⟨0, Or.inr rfl, ?_⟩⟩
  rw [nI_0]; exact if_neg h
theorem cq_w00 (E : Nat → Int32) : cq_W0 E 0 ≠ 0 := by
  have h : cq_W0 E 0 = 1 := if_pos (Or.inl rfl)
  rw [h]; decide

-- the scan over the codes
def cq_S (A : Nat → Nat → Option Nat) (W L : Nat → Int32) (p : Nat) (r : Int32) (c : Nat) (o : Prop) : Prop :=
  (∀ k q, k < c → A p k = some q → ¬ cq_G W L r (cq_mv p) q) ∧
  (o → ∃ k q, k < c ∧ A p k = some q ∧ ¬ cq_G W L r (cq_ot p) q) ∧
  (¬ o → ∀ k q, k < c → A p k = some q → cq_G W L r (cq_ot p) q)
section
variable {A : Nat → Nat → Option Nat} {W L : Nat → Int32} {p : Nat} {r : Int32} {c : Nat} {o o' : Prop}
theorem cq_S0 (h : ¬ o) : cq_S A W L p r 0 o :=
  ⟨fun _ _ h => absurd h (Nat.not_lt_zero _), fun z => absurd z h, fun _ _ _ h => absurd h (Nat.not_lt_zero _)⟩
theorem cq_Sn (hA : A p c = none) (s : cq_S A W L p r c o) : cq_S A W L p r (c + 1) o := by
  refine ⟨fun k q hk hq => ?_, fun z => ?_, fun z k q hk hq => ?_⟩
  · by_cases e : k = c
    · rw [e, hA] at hq; exact nomatch hq
    · exact s.1 k q (by omega) hq
  · obtain ⟨k, q, hk, h⟩ := s.2.1 z
    exact ⟨k, q, by omega, h⟩
  · by_cases e : k = c
    · rw [e, hA] at hq; exact nomatch hq
    · exact s.2.2 z k q (by omega) hq
theorem cq_So {q : Nat} (hA : A p c = some q) (hm : ¬ cq_G W L r (cq_mv p) q) (ho : ¬ cq_G W L r (cq_ot p) q) (s : cq_S A W L p r c o) (z' : o') : cq_S A W L p r (c + 1) o' := by
  refine ⟨fun k q' hk hq => ?_, fun z => ⟨c, q, by omega, hA, ho⟩, fun z => absurd z' z⟩
  by_cases e : k = c
  · rw [e, hA] at hq; cases hq; exact hm
  · exact s.1 k q' (by omega) hq
theorem cq_Sk {q : Nat} (hA : A p c = some q) (ho : cq_G W L r (cq_ot p) q) (s : cq_S A W L p r c o) : cq_S A W L p r (c + 1) o := by
  refine ⟨fun k q' hk hq => ?_, fun z => ?_, fun z k q' hk hq => ?_⟩
  · by_cases e : k = c
    · rw [e, hA] at hq; cases hq; exact fun hm => cq_Gx hm ho
    · exact s.1 k q' (by omega) hq
  · obtain ⟨k, q', hk, h⟩ := s.2.1 z
    exact ⟨k, q', by omega, h⟩
  · by_cases e : k = c
    · rw [e, hA] at hq; cases hq; exact ho
    · exact s.2.2 z k q' (by omega) hq
theorem cq_Sm {q : Nat} (hc : c < 13) (hA : A p c = some q) (hm : cq_G W L r (cq_mv p) q) : cq_FO A W L p r (cq_mv p) := Or.inl ⟨rfl, c, q, hc, hA, hm⟩
theorem cq_S13 (s : cq_S A W L p r 13 o) (z : o) : cq_FO A W L p r 0 := Or.inr (Or.inr ⟨rfl, s.1, s.2.1 z⟩)
theorem cq_S13n (s : cq_S A W L p r 13 o) (z : ¬ o) : cq_FO A W L p r (cq_ot p) := Or.inr (Or.inl ⟨rfl, s.2.2 z⟩)
end

-- a sweep in place, entries in the order of e
def cq_sd (A : Nat → Nat → Option Nat) (W L : Nat → Int32) (r : Nat) (e : Nat → Nat) (aW aL : Nat → Int32) (i : Nat) : Prop :=
  ∀ q, q < 432 → (e q < i → aW (e q) = cq_sW A W L r q ∧ aL (e q) = cq_sL A W L r q) ∧ (i ≤ e q → aW (e q) = W q ∧ aL (e q) = L q)
def cq_nf (A : Nat → Nat → Option Nat) (W L : Nat → Int32) (r : Nat) (e : Nat → Nat) (i : Nat) : Prop :=
  ∀ q, q < 432 → e q < i → W q = 0 → cq_fo A W L q (nI r) = 0
section
variable {A : Nat → Nat → Option Nat} {W L aW aL aW' aL' : Nat → Int32} {r i p : Nat} {e : Nat → Nat}
theorem cq_sdS (s : cq_sd A W L r e aW aL i) (hp : e p = i) (inj : ∀ q, q < 432 → e q = i → q = p)
    (h1 : aW' i = cq_sW A W L r p) (h2 : aL' i = cq_sL A W L r p) (h3 : ∀ j, j ≠ i → aW' j = aW j ∧ aL' j = aL j) : cq_sd A W L r e aW' aL' (i + 1) := by
  intro q hq
  by_cases h : e q = i
  · have hqp := inj q hq h
    refine ⟨fun _ => ?_, fun hl => absurd hl (by omega)⟩
    rw [h, hqp]
    exact ⟨h1, h2⟩
  · have h4 := h3 (e q) h
    rw [h4.1, h4.2]
    exact ⟨fun hl => (s q hq).1 (by omega), fun hl => (s q hq).2 (by omega)⟩
theorem cq_sdF (hA : ∀ c q, A p c = some q → q < 432) (s : cq_sd A W L r e aW aL i) {v : Int32} (h : cq_FO A (fun q => aW (e q)) (fun q => aL (e q)) p (nI r) v) : v = cq_fo A W L p (nI r) := by
  refine cq_FOun (cq_FOcg hA ?_ h) (cq_foS A W L p (nI r))
  refine cq_mix (A := A) fun q hq => ?_
  by_cases hl : e q < i
  · exact Or.inr ((s q hq).1 hl)
  · exact Or.inl ((s q hq).2 (by omega))
theorem cq_nfS (s : cq_nf A W L r e i) (inj : ∀ q, q < 432 → e q = i → q = p) (h : W p = 0 → cq_fo A W L p (nI r) = 0) : cq_nf A W L r e (i + 1) := by
  intro q hq hl z
  by_cases h' : e q = i
  · have hqp := inj q hq h'
    subst hqp
    exact h z
  · exact s q hq (by omega) z
end

-- counting, the greatest, the best
theorem cq_perm : ((List.range 432).map cq_x).Perm (List.range 432) := by decide +kernel
def cq_ct (P : Nat → Bool) : Nat → Nat
  | 0 => 0
  | n + 1 => cq_ct P n + (if P n = true then 1 else 0)
theorem cq_ctl (P : Nat → Bool) : ∀ n, cq_ct P n = (List.range n).countP P
  | 0 => rfl
  | n + 1 => by
    rw [List.range_succ, List.countP_append, List.countP_singleton, ← cq_ctl P n]
    rfl
theorem cq_ctn (P : Nat → Bool) : ∀ n, cq_ct P n ≤ n
  | 0 => Nat.le_refl 0
  | n + 1 => by
    have h := cq_ctn P n
    unfold cq_ct
    split <;> omega
theorem cq_ctx (P : Nat → Bool) : cq_ct (fun q => P (cq_x q)) 432 = cq_ct P 432 := by
  rw [cq_ctl, cq_ctl, ← List.Perm.countP_eq P cq_perm, List.countP_map]
  rfl
theorem cq_ctc {P Q : Nat → Bool} : ∀ n, (∀ p, p < n → P p = Q p) → cq_ct P n = cq_ct Q n
  | 0, _ => rfl
  | n + 1, h => by
    unfold cq_ct
    rw [cq_ctc n (fun p hp => h p (by omega)), h n (by omega)]

def cq_gr (W L : Nat → Int32) (e : Nat → Nat) (who : Int32) (i : Nat) (g : Int32) : Prop :=
  (∀ p, p < 432 → e p < i → W p = who → L p ≤ g) ∧ (g = -3 ∨ ∃ p, p < 432 ∧ W p = who ∧ L p = g ∧ -3 < g)
theorem cq_gru {W L : Nat → Int32} {e e' : Nat → Nat} {who g g' : Int32} (he : ∀ p, p < 432 → e p < 432) (he' : ∀ p, p < 432 → e' p < 432)
    (h : cq_gr W L e who 432 g) (h' : cq_gr W L e' who 432 g') : g = g' := by
  rcases h with ⟨a, b | ⟨p, hp, hw, hl, hg⟩⟩
  · rcases h' with ⟨a', b' | ⟨p', hp', hw', hl', hg'⟩⟩
    · rw [b, b']
    · have := a p' hp' (he p' hp') hw'
      rw [hl', b] at this
      exact absurd hg' (Int32.not_lt.mpr this)
  · rcases h' with ⟨a', b' | ⟨p', hp', hw', hl', hg'⟩⟩
    · have := a' p hp (he' p hp) hw
      rw [hl, b'] at this
      exact absurd hg (Int32.not_lt.mpr this)
    · have k := a p' hp' (he p' hp') hw'
      have k' := a' p hp (he' p hp) hw
      rw [hl'] at k
      rw [hl] at k'
      exact Int32.le_antisymm k' k

def cq_be (Q : Nat → Prop) (v : Int32) : Prop :=
  (∃ c, c < 13 ∧ v = nI c ∧ Q c ∧ ∀ k, k < c → ¬ Q k) ∨ (v = -2 ∧ ∀ k, k < 13 → ¬ Q k)
theorem cq_beu {Q : Nat → Prop} {v v' : Int32} (h : cq_be Q v) (h' : cq_be Q v') : v = v' := by
  rcases h with ⟨c, hc, e, q, l⟩ | ⟨e, l⟩
  · rcases h' with ⟨c', hc', e', q', l'⟩ | ⟨e', l'⟩
    · have : c = c' := by
        rcases Nat.lt_trichotomy c c' with h | h | h
        · exact absurd q (l' c h)
        · exact h
        · exact absurd q' (l c' h)
      rw [e, e', this]
    · exact absurd q (l' c hc)
  · rcases h' with ⟨c', hc', e', q', l'⟩ | ⟨e', l'⟩
    · exact absurd q' (l c' hc')
    · rw [e, e']
end
section
-- the class's small methods
theorem cx_dr {p d : Nat} (h : p < 432) (h0 : 0 < d) (hd : d < 433) : nI p / nI d - nI p / nI d / nI 6 * nI 6 = nI (p / d % 6) := by
  have hl : p / d < 432 := Nat.lt_of_le_of_lt (Nat.div_le_self p d) h
  rw [pk_div (by omega) h0 (by omega), pk_rem (by omega) (by omega) (by omega)]
theorem cx_pA {post : Int32 → Prop} {p : Nat} (h : p < 432) (k : post (nI (cq_a p))) : wpX_placeOfA post (nI p) := by
  have e : nI p / 1 - nI p / 1 / 6 * 6 = nI (cq_a p) := (cx_dr (d := 1) h (by omega) (by omega)).trans (by rw [Nat.div_one]; rfl)
  refine ⟨by decide, by decide, ?_⟩
  rw [e]; exact k
theorem cx_pB {post : Int32 → Prop} {p : Nat} (h : p < 432) (k : post (nI (cq_b p))) : wpX_placeOfB post (nI p) := by
  have e : nI p / 6 - nI p / 6 / 6 * 6 = nI (cq_b p) := cx_dr (d := 6) h (by omega) (by omega)
  refine ⟨by decide, by decide, ?_⟩
  rw [e]; exact k
theorem cx_pT {post : Int32 → Prop} {p : Nat} (h : p < 432) (k : post (nI (cq_t p))) : wpX_placeOfThief post (nI p) := by
  have e : nI p / 36 - nI p / 36 / 6 * 6 = nI (cq_t p) := cx_dr (d := 36) h (by omega) (by omega)
  refine ⟨by decide, by decide, ?_⟩
  rw [e]; exact k
theorem cx_th {post : Int32 → Prop} {p : Nat} (h : p < 432) (k0 : p < 216 → post 0) (k1 : 216 ≤ p → post 1) : wpX_thiefIsToMove post (nI p) :=
  pk_lt p 216 k0 k1
theorem cx_ipn {post : Int32 → Prop} {v : Int32} (h : v < 0 ∨ nI 6 ≤ v) (k : post 0) : wpX_isPlace post v := by
  by_cases z : v < 0
  · exact br_t z k
  · exact br_f z (br_t (h.resolve_left z) k)
theorem cx_ip {post : Int32 → Prop} {j : Nat} (h : j < 6) (k : post 1) : wpX_isPlace post (nI j) :=
  br_f (nI_pos (by omega)) (br_f (nI_ge (b := 6) h (by decide)) k)
theorem cx_nu {post : Int32 → Prop} {a b t m : Nat} (hm : m < 2) {f : Int32} (hf : f = nI m) (k : post (nI (cq_n a b t m))) : wpX_numberOf post (nI a) (nI b) (nI t) f := by
  have e : 1 * nI a + 6 * nI b + 36 * nI t = nI (a + 6 * b + 36 * t) := by
    rw [show (1 : Int32) = nI 1 from rfl, show (6 : Int32) = nI 6 from rfl, show (36 : Int32) = nI 36 from rfl, pk_mul, pk_mul, pk_mul, nI_add, nI_add, Nat.one_mul]
  refine nm_r e ?_
  have hm' : m = 0 ∨ m = 1 := by omega
  rcases hm' with rfl | rfl
  · exact br_t hf k
  · refine br_f (by rw [hf]; decide) ?_
    rw [show (216 : Int32) = nI 216 from rfl, nI_add]
    exact k
section
variable {g w cu : Int32} {D E aW aL : Nat → Int32}
theorem cx_wo {post : Int32 → Prop} {p : Nat} (h : p < 432) (k : post (cq_W0 E p)) : wpX_winnerIfOver post (g, w, cu, D, E, aW, aL) (nI p) := by
  have ha := cq_al p
  have hb := cq_bl p
  have ht := cq_tl p
  unfold cq_W0 at k
  unfold wpX_winnerIfOver
  dsimp only
  refine cx_pT h (cx_pA h (pk_eq (cq_t p) (cq_a p) (fun e => ?_) (fun e => cx_pB h (pk_eq (cq_t p) (cq_b p) (fun e' => ?_) (fun e' => ⟨pk_in (cq_t p) 6 ht, ?_⟩)))))
  · rw [if_pos (Or.inl e)] at k; exact k
  · rw [if_pos (Or.inr e')] at k; exact k
  · rw [if_neg (fun z => z.elim e e')] at k
    rw [nI_clamp (by omega)]
    refine br_c (fun z => ?_) (fun z => ?_)
    · rw [if_pos z] at k; exact k
    · rw [if_neg z] at k; exact k
theorem cx_108 {post : Int32 → Prop} {p c d : Nat} {x5 : Int32} (h : p < 432) (hd : 0 < d) (hd' : d < 433) (hc : c < 13)
    (k0 : D (p / d % 6 * 6 + c % 6) = 0 → post (-1)) (k1 : ¬ D (p / d % 6 * 6 + c % 6) = 0 → post (x5 + (nI (c % 6) - nI (p / d % 6)) * nI d)) :
    wX_positionAfter_108 post (nI p) (nI c) x5 (nI d) g w cu D E aW aL := by
  have hl : p / d % 6 < 6 := Nat.mod_lt _ (by decide)
  have hl' : c % 6 < 6 := Nat.mod_lt _ (by decide)
  have e : nI (p / d % 6) * 6 + nI (c % 6) = nI (p / d % 6 * 6 + c % 6) := by
    rw [show (6 : Int32) = nI 6 from rfl, pk_mul, nI_add]
  have e9 : nI c - nI c / 6 * 6 = nI (c % 6) := pk_rem (d := 6) (by omega) (by omega) (by omega)
  refine ⟨nI_ne0 hd (by omega), by decide, nm_r (cx_dr h hd hd') ⟨by decide, nm_r e9 ?_⟩⟩
  rw [e, nI_clamp (by omega)]
  exact ⟨vp_in_nI (by omega) (by omega), br_c k0 k1⟩
theorem cx_r1 (A B T C : Int32) : A + 6 * B + 36 * T + 216 + (C - A) * 1 = C + 6 * B + 36 * T + 216 := by grind
theorem cx_r6 (A B T C : Int32) : A + 6 * B + 36 * T + 216 + (C - B) * 6 = A + 6 * C + 36 * T + 216 := by grind
theorem cx_r36 (A B T C : Int32) : A + 6 * B + 36 * T + 216 - 216 + (C - T) * 36 = A + 6 * B + 36 * C := by grind
theorem cx_e0 (a b t : Nat) : nI (cq_n a b t 0) = nI a + 6 * nI b + 36 * nI t := by
  rw [show (6 : Int32) = nI 6 from rfl, show (36 : Int32) = nI 36 from rfl, pk_mul, pk_mul, nI_add, nI_add]
  rfl
theorem cx_e1 (a b t : Nat) : nI (cq_n a b t 1) = nI a + 6 * nI b + 36 * nI t + 216 := by
  rw [show (6 : Int32) = nI 6 from rfl, show (36 : Int32) = nI 36 from rfl, show (216 : Int32) = nI 216 from rfl, pk_mul, pk_mul, nI_add, nI_add, nI_add]
  rfl
theorem cx_p0 {p : Nat} (h : p < 216) : nI p = nI (cq_a p) + 6 * nI (cq_b p) + 36 * nI (cq_t p) := by
  rw [← cx_e0]
  have e := cq_np p (by omega)
  rw [show p / 216 = 0 by omega] at e
  rw [e]
theorem cx_p1 {p : Nat} (h : 216 ≤ p) (h' : p < 432) : nI p = nI (cq_a p) + 6 * nI (cq_b p) + 36 * nI (cq_t p) + 216 := by
  rw [← cx_e1]
  have e := cq_np p h'
  rw [show p / 216 = 1 by omega] at e
  rw [e]
theorem cx_af {post : Int32 → Prop} {p c : Nat} (h : p < 432) (hc : c < 13) (kn : cq_A D g w p c = none → post (-1))
    (ks : ∀ q, cq_A D g w p c = some q → post (nI q)) : wpX_positionAfter post (g, w, cu, D, E, aW, aL) (nI p) (nI c) := by
  have n0 : ¬ nI c < 0 := nI_pos (by omega)
  unfold wpX_positionAfter
  dsimp only
  unfold cq_A at kn ks
  refine cx_th h (fun hp => br_t rfl (br_t rfl ?_)) (fun hp => br_f (by decide) (br_f (by decide) ?_))
  · have hn : ¬ 216 ≤ p := by omega
    rw [if_neg hn] at kn
    simp only [if_neg hn] at ks
    refine pk_eq c 12 (fun e => br_t rfl ?_) (fun e => br_f n0 ?_)
    · rw [if_pos e] at kn
      simp only [if_pos e] at ks
      refine br_c (fun z => ?_) (fun z => ?_)
      · exact kn (if_pos z)
      · have k := ks _ (if_neg z)
        rw [cx_e1] at k
        rw [cx_p0 hp]; exact k
    · rw [if_neg e] at kn
      simp only [if_neg e] at ks
      refine pk_le c 11 (fun l => pk_le 6 c (fun l6 => br_t rfl ?_) (fun l6 => br_t rfl ?_)) (fun l => absurd l (by omega))
      · have n6 : ¬ c < 6 := by omega
        have l12 : c < 12 := by omega
        rw [if_neg n6, if_pos l12] at kn
        simp only [if_neg n6, if_pos l12] at ks
        have e6 : c % 6 = c - 6 := by omega
        refine cx_108 (d := 6) h (by omega) (by omega) hc ?_ ?_
        · rw [e6]; exact fun z => kn (if_pos z)
        · rw [e6]
          intro z
          have k := ks _ (if_neg z)
          rw [cx_e1, ← cx_r6 (nI (cq_a p)) (nI (cq_b p)), ← cx_p0 hp] at k
          exact k
      · rw [if_pos l6] at kn
        simp only [if_pos l6] at ks
        have e6 : c % 6 = c := by omega
        refine cx_108 (d := 1) h (by omega) (by omega) hc ?_ ?_
        · rw [e6, Nat.div_one]; exact fun z => kn (if_pos z)
        · rw [e6, Nat.div_one]
          intro z
          have k := ks _ (if_neg z)
          rw [cx_e1, ← cx_r1 (nI (cq_a p)), ← cx_p0 hp] at k
          exact k
  · rw [if_pos hp] at kn
    simp only [if_pos hp] at ks
    refine pk_eq c 12 (fun e => br_f (by decide) ?_) (fun e => br_f n0 ?_)
    · rw [if_pos e] at kn
      simp only [if_pos e] at ks
      refine br_c (fun z => ?_) (fun z => ?_)
      · exact kn (if_pos z)
      · have k := ks _ (if_neg z)
        rw [cx_e0] at k
        rw [cx_p1 hp h, Int32.add_sub_cancel]; exact k
    · rw [if_neg e] at kn
      simp only [if_neg e] at ks
      refine pk_le c 5 (fun l => br_f (nI_ge (b := 6) (by omega) (by decide)) (br_f (by decide) ?_)) (fun l => ?_)
      · have l6 : c < 6 := by omega
        rw [if_pos l6] at kn
        simp only [if_pos l6] at ks
        have e6 : c % 6 = c := by omega
        refine cx_108 (d := 36) h (by omega) (by omega) hc ?_ ?_
        · rw [e6]; exact fun z => kn (if_pos z)
        · rw [e6]
          intro z
          have k := ks _ (if_neg z)
          rw [cx_e0, ← cx_r36 (nI (cq_a p)) (nI (cq_b p)) (nI (cq_t p)), ← cx_p1 hp h] at k
          exact k
      · rw [if_neg (show ¬ c < 6 by omega)] at kn
        exact kn rfl
theorem cx_afx {post : Int32 → Prop} {p : Nat} {v : Int32} (h : p < 432) (hv : v < 0 ∨ nI 13 ≤ v) (k : post (-1)) :
    wpX_positionAfter post (g, w, cu, D, E, aW, aL) (nI p) v := by
  have n12 : ¬ v = 12 := by
    rintro rfl
    exact absurd hv (by decide)
  unfold wpX_positionAfter
  dsimp only
  refine cx_th h (fun hp => br_t rfl (br_t rfl (br_f n12 ?_))) (fun hp => br_f (by decide) (br_f (by decide) (br_f n12 ?_)))
  · by_cases z : v < 0
    · exact br_t z k
    · exact br_f z (br_f (fun l => absurd (Int32.le_trans (hv.resolve_left z) l) (by decide)) k)
  · by_cases z : v < 0
    · exact br_t z k
    · exact br_f z (br_f (fun l => absurd (Int32.le_trans (hv.resolve_left z) l) (by decide)) k)
end
end
section
-- the class's rounds
noncomputable def cq_TT (D E : Nat → Int32) (g w : Int32) (r : Nat) : (Nat → Int32) × (Nat → Int32) := cq_T (cq_A D g w) (cq_W0 E) (cq_L0 E) r
def cq_at (T : (Nat → Int32) × (Nat → Int32)) (e : Nat → Nat) (aW aL : Nat → Int32) : Prop := ∀ q, q < 432 → aW (e q) = T.1 q ∧ aL (e q) = T.2 q
theorem cq_TTok (D E : Nat → Int32) (g w : Int32) (r : Nat) : cq_Ok (cq_TT D E g w r).1 (cq_TT D E g w r).2 r := cq_okT (cq_ok0 E) r
theorem cq_TTend {D E : Nat → Int32} {g w : Int32} {r : Nat} (h1 : 0 < r) (h2 : r ≤ 432)
    (h : ∀ p, p < 432 → (cq_TT D E g w r).1 p = 0 → cq_fo (cq_A D g w) (cq_TT D E g w r).1 (cq_TT D E g w r).2 p (nI r) = 0) : cq_TT D E g w (r + 1) = cq_TT D E g w 433 :=
  cq_end cq_AlN (cq_ok0 E) h1 h2 h
theorem cq_TTlast (D E : Nat → Int32) (g w : Int32) : cq_TT D E g w 433 = cq_TT D E g w 432 := cq_last cq_AlN (cq_ok0 E) (cq_w00 E)
theorem cq_sd0 {A : Nat → Nat → Option Nat} {T : (Nat → Int32) × (Nat → Int32)} {r : Nat} {e : Nat → Nat} {aW aL : Nat → Int32} (h : cq_at T e aW aL) : cq_sd A T.1 T.2 r e aW aL 0 :=
  fun q hq => ⟨fun z => absurd z (Nat.not_lt_zero _), fun _ => h q hq⟩
theorem cq_third {x : Int32} {p : Nat} (h : x = 0 ∨ x = 1 ∨ x = 2) (z : ¬ x = 0) (e : ¬ x = cq_mv p) : x = cq_ot p := by
  by_cases hp : 216 ≤ p
  · rw [show cq_mv p = 2 from if_pos hp] at e
    rw [show cq_ot p = 1 from if_pos hp]
    exact (h.resolve_left z).resolve_right e
  · rw [show cq_mv p = 1 from if_neg hp] at e
    rw [show cq_ot p = 2 from if_neg hp]
    exact (h.resolve_left z).resolve_left e
-- the entries of a table in the middle of a sweep
theorem cq_sd3 {A : Nat → Nat → Option Nat} {W L aW aL : Nat → Int32} {r i : Nat} {e : Nat → Nat} (ok : cq_Ok W L r) (s : cq_sd A W L r e aW aL i) {q : Nat} (hq : q < 432) :
    aW (e q) = 0 ∨ aW (e q) = 1 ∨ aW (e q) = 2 := by
  by_cases h : e q < i
  · rw [((s q hq).1 h).1]; exact (cq_okS (A := A) ok q hq).1
  · rw [((s q hq).2 (by omega)).1]; exact (ok q hq).1
section
variable {g w cu : Int32} {D E : Nat → Int32}
theorem cx_wirL {post : Int32 → Prop} {aW aL : Nat → Int32} {p : Nat} {r : Int32} (h : p < 432) (ok : ∀ q, q < 432 → aW q = 0 ∨ aW q = 1 ∨ aW q = 2)
    (k : ∀ v, cq_FO (cq_A D g w) aW aL p r v → post v) : ∀ (d c : Nat) (x4 : Int32), c + d = 13 → cq_S (cq_A D g w) aW aL p r c (¬ x4 = 0) →
    wX_winnerInRound_19 post (nI p) r (cq_mv p) g w cu D E aW aL (d + 1) x4 (nI c) := by
  intro d
  induction d with
  | zero =>
    intro c x4 hc s
    have hc' : c = 13 := by omega
    subst hc'
    refine br_t (by decide) (br_c (fun z => ?_) (fun z => k 0 (cq_S13 s z)))
    have f := k _ (cq_S13n s (fun n => n z))
    by_cases hp : 216 ≤ p
    · rw [show cq_ot p = 1 from if_pos hp] at f
      exact br_t (if_pos hp) f
    · rw [show cq_ot p = 2 from if_neg hp] at f
      refine br_f ?_ f
      rw [show cq_mv p = 1 from if_neg hp]; decide
  | succ d ih =>
    intro c x4 hc s
    refine br_f ?_ (cx_af h (by omega) (fun hn => ?_) (fun q hq => ?_))
    · exact fun l => absurd ((nI_ltI (a := 12) (by omega) (by omega)).mp l) (by omega)
    · exact br_t rfl (nm_r (nI_1 c) (ih (c + 1) x4 (by omega) (cq_Sn hn s)))
    · have hl := cq_Al p c q hq
      have hv : vp_in (nI q) 432 := vp_in_nI hl (by omega)
      have hn : ¬ nI q = -1 := fun z => absurd (z ▸ nI_pos (n := q) (by omega) : ¬ (-1 : Int32) < 0) (by decide)
      refine br_f hn ⟨hv, ?_⟩
      rw [nI_clamp (by omega)]
      refine br_c (fun z => nm_r (nI_1 c) (ih (c + 1) 1 (by omega) (cq_So hq (fun G => ?_) (fun G => ?_) s (by decide)))) (fun z => ⟨hv, br_c (fun l => ⟨hv, br_c (fun e => k _ (cq_Sm (by omega) hq ⟨e, l⟩)) (fun e => nm_r (nI_1 c) (ih (c + 1) x4 (by omega) (cq_Sk hq ⟨cq_third (ok q hl) z e, l⟩ s)))⟩) (fun l => nm_r (nI_1 c) (ih (c + 1) 1 (by omega) (cq_So hq (fun G => l G.2) (fun G => l G.2) s (by decide))))⟩)
      · exact (cq_mo p).2.1 (G.1.symm.trans z)
      · exact (cq_mo p).2.2 (G.1.symm.trans z)
theorem cx_wir {post : Int32 → Prop} {aW aL : Nat → Int32} {p : Nat} {r : Int32} (h : p < 432) (ok : ∀ q, q < 432 → aW q = 0 ∨ aW q = 1 ∨ aW q = 2)
    (k : ∀ v, cq_FO (cq_A D g w) aW aL p r v → post v) : wpX_winnerInRound post (g, w, cu, D, E, aW, aL) (nI p) r := by
  have s := cx_wirL (cu := cu) (E := E) h ok k 13 0 0 rfl (cq_S0 (fun z => z rfl))
  unfold wpX_winnerInRound
  dsimp only
  refine cx_th h (fun hp => br_t rfl ⟨14, ?_⟩) (fun hp => br_f (by decide) ⟨14, ?_⟩)
  · rw [show cq_mv p = 1 from if_neg (by omega)] at s; exact s
  · rw [show cq_mv p = 2 from if_pos hp] at s; exact s
theorem cx_srL {post : Int32 → SX → Prop} {W L : Nat → Int32} {r : Nat} (ok : cq_Ok W L r)
    (k : ∀ (x2 : Int32) (aW aL : Nat → Int32), (∀ q, q < 432 → aW q = cq_sW (cq_A D g w) W L r q ∧ aL q = cq_sL (cq_A D g w) W L r q) → (x2 = 0 ∨ x2 = 1) →
      (x2 = 0 → ∀ p, p < 432 → W p = 0 → cq_fo (cq_A D g w) W L p (nI r) = 0) → post x2 (g, w, cu, D, E, aW, aL)) :
    ∀ (d i : Nat) (x2 : Int32) (aW aL : Nat → Int32), i + d = 432 → cq_sd (cq_A D g w) W L r (fun q => q) aW aL i → (x2 = 0 ∨ x2 = 1) →
      (x2 = 0 → cq_nf (cq_A D g w) W L r (fun q => q) i) → wX_settleRound_4 post (nI r) g w cu (d + 1) x2 (nI i) D E aW aL := by
  intro d
  induction d with
  | zero =>
    intro i x2 aW aL hi s hx hn
    have hi' : i = 432 := by omega
    subst hi'
    refine br_t (by decide) ⟨?_, k x2 aW aL (fun q hq => (s q hq).1 hq) hx (fun z p hp => hn z p hp hp)⟩
    rcases hx with rfl | rfl <;> rfl
  | succ d ih =>
    intro i x2 aW aL hi s hx hn
    have hl : i < 432 := by omega
    have hv : vp_in (nI i) 432 := vp_in_nI hl (by omega)
    have old := (s i hl).2 (Nat.le_refl i)
    dsimp only at old
    have inj : ∀ q, q < 432 → (fun q : Nat => q) q = i → q = i := fun q _ e => e
    refine br_f (nI_ge (b := 432) hl (by decide)) ⟨hv, ?_⟩
    rw [nI_clamp (by omega)]
    refine br_c (fun z => cx_wir hl (fun q hq => cq_sd3 ok s hq) (fun v fv => ?_)) (fun z => nm_r (nI_1 i) (ih (i + 1) x2 aW aL (by omega) ?_ hx ?_))
    · have ev : v = cq_fo (cq_A D g w) W L i (nI r) := cq_sdF (e := fun q => q) (fun c q hq => cq_Al i c q hq) s fv
      have z' : W i = 0 := old.1.symm.trans z
      refine br_c (fun f => nm_r (nI_1 i) (ih (i + 1) x2 aW aL (by omega) ?_ hx ?_)) (fun f => ⟨hv, nm_e ⟨hv, nm_e (nm_r (nI_1 i) (ih (i + 1) 1 _ _ (by omega) ?_ (Or.inr rfl) (fun o => absurd o (by decide))))⟩⟩)
      · have t := cq_sw3 hl z' (ev.symm.trans f)
        exact cq_sdS s rfl inj (z.trans t.1.symm) (old.2.trans t.2.symm) (fun j _ => ⟨rfl, rfl⟩)
      · exact fun o => cq_nfS (hn o) inj (fun _ => ev.symm.trans f)
      · have t := cq_sw2 hl z' (fun e => f (ev.trans e))
        exact cq_sdS s rfl inj (pk_us.trans (ev.trans t.1.symm)) (pk_us.trans t.2.symm) (fun j hj => ⟨pk_un hj, pk_un hj⟩)
    · have t := cq_sw1 (A := cq_A D g w) (L := L) (r := r) (fun e => z (old.1.trans e))
      exact cq_sdS s rfl inj (old.1.trans t.1.symm) (old.2.trans t.2.symm) (fun j _ => ⟨rfl, rfl⟩)
    · exact fun o => cq_nfS (hn o) inj (fun e => absurd (old.1.trans e) z)
theorem cx_sr {post : Int32 → SX → Prop} {aW aL : Nat → Int32} {r : Nat} (h : cq_at (cq_TT D E g w r) (fun q => q) aW aL)
    (k : ∀ (x2 : Int32) (bW bL : Nat → Int32), cq_at (cq_TT D E g w (r + 1)) (fun q => q) bW bL → (x2 = 0 ∨ x2 = 1) →
      (x2 = 0 → 0 < r → r ≤ 432 → cq_TT D E g w (r + 1) = cq_TT D E g w 433) → post x2 (g, w, cu, D, E, bW, bL)) :
    wpX_settleRound post (g, w, cu, D, E, aW, aL) (nI r) :=
  ⟨433, cx_srL (cq_TTok D E g w r) (fun x2 bW bL hb hx hn => k x2 bW bL hb hx (fun z h1 h2 => cq_TTend h1 h2 (hn z))) 432 0 0 aW aL rfl (cq_sd0 h) (Or.inl rfl)
    (fun _ _ _ z => absurd z (Nat.not_lt_zero _))⟩
theorem cx_stL {post : SX → Prop} (k : ∀ aW aL : Nat → Int32, cq_at (cq_TT D E g w 0) (fun q => q) aW aL → post (g, w, cu, D, E, aW, aL)) :
    ∀ (d i : Nat) (aW aL : Nat → Int32), i + d = 432 → (∀ q, q < i → aW q = cq_W0 E q ∧ aL q = cq_L0 E q) → wX_settleThoseOver_2 post g w cu (d + 1) (nI i) D E aW aL := by
  intro d
  induction d with
  | zero =>
    intro i aW aL hi s
    have hi' : i = 432 := by omega
    subst hi'
    exact br_t (by decide) (k aW aL s)
  | succ d ih =>
    intro i aW aL hi s
    have hl : i < 432 := by omega
    have hv : vp_in (nI i) 432 := vp_in_nI hl (by omega)
    refine br_f (nI_ge (b := 432) hl (by decide)) ?_
    rw [nI_clamp (by omega)]
    refine cx_wo hl ⟨hv, nm_e (br_c (fun z => ⟨hv, nm_e (nm_r (nI_1 i) (ih (i + 1) _ _ (by omega) ?_))⟩) (fun z => ⟨hv, nm_e (nm_r (nI_1 i) (ih (i + 1) _ _ (by omega) ?_))⟩))⟩
    · intro q hq
      by_cases e : q = i
      · subst e
        exact ⟨pk_us, pk_us.trans (if_pos z).symm⟩
      · exact ⟨(pk_un e).trans (s q (by omega)).1, (pk_un e).trans (s q (by omega)).2⟩
    · intro q hq
      by_cases e : q = i
      · subst e
        exact ⟨pk_us, pk_us.trans (if_neg z).symm⟩
      · exact ⟨(pk_un e).trans (s q (by omega)).1, (pk_un e).trans (s q (by omega)).2⟩
theorem cx_svL {post : SX → Prop} (k : ∀ aW aL : Nat → Int32, cq_at (cq_TT D E g w 433) (fun q => q) aW aL → post (g, w, cu, D, E, aW, aL)) :
    ∀ (d r : Nat) (x1 : Int32) (aW aL : Nat → Int32), r + d = 433 → 1 ≤ r → cq_at (cq_TT D E g w r) (fun q => q) aW aL → (x1 = 0 → cq_TT D E g w r = cq_TT D E g w 433) →
      wX_solve_14 post (d + 1) x1 (nI r) g w cu D E aW aL := by
  intro d
  induction d with
  | zero =>
    intro r x1 aW aL hr h1 s hx
    have hr' : r = 433 := by omega
    subst hr'
    exact br_c (fun z => k aW aL s) (fun z => br_t (by decide) (k aW aL s))
  | succ d ih =>
    intro r x1 aW aL hr h1 s hx
    refine br_c (fun z => k aW aL (hx z ▸ s)) (fun z => br_f (fun l => absurd ((nI_ltI (a := 432) (by omega) (by omega)).mp l) (by omega)) ?_)
    exact cx_sr s (fun x2 bW bL hb h2 hn => nm_r (nI_1 r) (ih (r + 1) x2 bW bL (by omega) (by omega) hb (fun z => hn z (by omega) (by omega))))
theorem cx_solve {post : SX → Prop} {aW aL : Nat → Int32} (k : ∀ bW bL : Nat → Int32, cq_at (cq_TT D E g w 433) (fun q => q) bW bL → post (g, w, cu, D, E, bW, bL)) :
    wpX_solve post (g, w, cu, D, E, aW, aL) := by
  unfold wpX_solve
  dsimp only
  unfold wpX_settleThoseOver
  dsimp only
  refine ⟨433, cx_stL (fun bW bL hb => ?_) 432 0 aW aL rfl (fun q hq => absurd hq (Nat.not_lt_zero _))⟩
  exact cx_sr (r := 0) hb (fun x2 cW cL hc _ _ => ⟨433, cx_svL k 432 1 1 cW cL rfl (by omega) hc (fun z => absurd z (by decide))⟩)
end
end
section
-- the reference's small methods
theorem cy_d : ∀ p, p < 432 → cq_y p / 72 = cq_a p ∧ cq_y p / 12 % 6 = cq_b p ∧ cq_y p / 2 % 6 = cq_t p ∧ cq_y p % 2 = p / 216 := by decide +kernel
theorem cy_eA {p : Nat} (h : p < 432) : nI (cq_y p) / 72 = nI (cq_a p) := by
  have hy := cq_ylt p h
  have e := pk_div (a := cq_y p) (d := 72) (by omega) (by omega) (by omega)
  rw [(cy_d p h).1] at e
  exact e
theorem cy_eB {p : Nat} (h : p < 432) : nI (cq_y p) / 12 - nI (cq_y p) / 12 / 6 * 6 = nI (cq_b p) := by
  have e := cx_dr (d := 12) (cq_ylt p h) (by omega) (by omega)
  rw [(cy_d p h).2.1] at e
  exact e
theorem cy_eT {p : Nat} (h : p < 432) : nI (cq_y p) / 2 - nI (cq_y p) / 2 / 6 * 6 = nI (cq_t p) := by
  have e := cx_dr (d := 2) (cq_ylt p h) (by omega) (by omega)
  rw [(cy_d p h).2.2.1] at e
  exact e
theorem cy_eM {p : Nat} (h : p < 432) : nI (cq_y p) - nI (cq_y p) / 2 * 2 = nI (p / 216) := by
  have hy := cq_ylt p h
  have e := pk_rem (a := cq_y p) (d := 2) (by omega) (by omega) (by omega)
  rw [(cy_d p h).2.2.2] at e
  exact e
section
variable {ws pl kn : Int32} {D E bW bL : Nat → Int32}
theorem cy_badn {post : Int32 → Prop} {v : Int32} (h : v < 0 ∨ nI 6 ≤ v) (k : post 1) : wpY_bad post (ws, pl, kn, D, E, bW, bL) v := by
  by_cases z : v < 0
  · exact br_t z k
  · exact br_f z (br_f (fun l => absurd (Int32.le_trans (h.resolve_left z) l) (by decide)) k)
theorem cy_bad {post : Int32 → Prop} {j : Nat} (h : j < 6) (k : post 0) : wpY_bad post (ws, pl, kn, D, E, bW, bL) (nI j) :=
  br_f (nI_pos (by omega)) (br_t (nI_le (b := 5) (by omega) (by decide)) k)
theorem cy_nu {post : Int32 → Prop} {a b t m : Nat} (hm : m < 2) {f : Int32} (hf : f = nI m) (ha : a < 6) (hb : b < 6) (ht : t < 6) (k : post (nI (cq_y (cq_n a b t m)))) :
    wpY_number post (ws, pl, kn, D, E, bW, bL) (nI a) (nI b) (nI t) f := by
  have e : ((nI a * 6 + nI b) * 6 + nI t) * 2 = nI (((a * 6 + b) * 6 + t) * 2) := by
    rw [show (6 : Int32) = nI 6 from rfl, show (2 : Int32) = nI 2 from rfl, pk_mul, nI_add, pk_mul, nI_add, pk_mul]
  rw [cq_yn ha hb ht, ← nI_add] at k
  unfold wpY_number
  dsimp only
  rw [e]
  have hm' : m = 0 ∨ m = 1 := by omega
  rcases hm' with rfl | rfl
  · exact br_t hf k
  · exact br_f (by rw [hf]; decide) k
theorem cy_ov {post : Int32 → Prop} {p : Nat} (h : p < 432) (k : post (cq_W0 E p)) : wpY_over post (ws, pl, kn, D, E, bW, bL) (nI (cq_y p)) := by
  have ha := cq_al p
  have hb := cq_bl p
  have ht := cq_tl p
  unfold cq_W0 at k
  unfold wpY_over
  dsimp only
  refine ⟨by decide, by decide, nm_r (cy_eT h) ⟨by decide, ?_⟩⟩
  rw [cy_eA h, cy_eB h]
  refine pk_eq (cq_t p) (cq_a p) (fun e => ?_) (fun e => ⟨by decide, by decide, pk_eq (cq_t p) (cq_b p) (fun e' => ?_) (fun e' => ⟨pk_in (cq_t p) 6 ht, ?_⟩)⟩)
  · rw [if_pos (Or.inl e)] at k; exact k
  · rw [if_pos (Or.inr e')] at k; exact k
  · rw [if_neg (fun z => z.elim e e')] at k
    rw [nI_clamp (by omega)]
    refine br_c (fun z => ?_) (fun z => ?_)
    · rw [if_pos z] at k; exact k
    · rw [if_neg z] at k; exact k
theorem cy_mv {post : Int32 → Prop} {p : Nat} (h : p < 432) (k : post (cq_mv p)) : wpY_mover post (ws, pl, kn, D, E, bW, bL) (nI (cq_y p)) := by
  unfold wpY_mover
  dsimp only
  refine ⟨by decide, ?_⟩
  rw [cy_eM h]
  by_cases hp : 216 ≤ p
  · rw [show cq_mv p = 2 from if_pos hp] at k
    rw [show p / 216 = 1 by omega]
    exact br_t rfl k
  · rw [show cq_mv p = 1 from if_neg hp] at k
    rw [show p / 216 = 0 by omega]
    exact br_f (by decide) k
theorem cy_ix {a c : Nat} : nI a * 6 + nI c = nI (a * 6 + c) := by
  rw [show (6 : Int32) = nI 6 from rfl, pk_mul, nI_add]
theorem cy_af {post : Int32 → Prop} {p c : Nat} {g w : Int32} (hg : ws &&& 1 = 0 ↔ g = 0) (hw : ws &&& 2 = 0 ↔ w = 0) (h : p < 432) (hc : c < 13)
    (kn' : cq_A D g w p c = none → post (-1)) (ks : ∀ q, cq_A D g w p c = some q → post (nI (cq_y q))) :
    wpY_after post (ws, pl, kn, D, E, bW, bL) (nI (cq_y p)) (nI c) := by
  have ha := cq_al p
  have hb := cq_bl p
  have ht := cq_tl p
  have n0 : ¬ nI c < 0 := nI_pos (by omega)
  have n12 : nI c ≤ 12 := nI_le (b := 12) (by omega) (by decide)
  unfold wpY_after
  dsimp only
  refine ⟨by decide, nm_r (cy_eA h) ⟨by decide, by decide, nm_r (cy_eB h) ⟨by decide, by decide, nm_r (cy_eT h) ⟨by decide, ?_⟩⟩⟩⟩
  rw [cy_eM h]
  unfold cq_A at kn' ks
  by_cases hp : 216 ≤ p
  · rw [if_pos hp] at kn'
    simp only [if_pos hp] at ks
    rw [show p / 216 = 1 by omega]
    refine br_t rfl (br_f n0 (br_t n12 ?_))
    refine pk_eq c 12 (fun e => br_f (by decide) ?_) (fun e => br_f (by decide) ?_)
    · rw [if_pos e] at kn'
      simp only [if_pos e] at ks
      refine br_c (fun z => br_t rfl (kn' (if_pos (hw.mp z)))) (fun z => br_f (by decide) (br_f (by decide) ?_))
      exact cy_nu (m := 0) (by omega) rfl ha hb ht (ks _ (if_neg (fun y => z (hw.mpr y))))
    · rw [if_neg e] at kn'
      simp only [if_neg e] at ks
      refine pk_le 6 c (fun l => ?_) (fun l => ?_)
      · rw [if_neg (show ¬ c < 6 by omega)] at kn'
        exact kn' rfl
      · rw [if_pos l] at kn'
        simp only [if_pos l] at ks
        rw [cy_ix, nI_clamp (by omega)]
        refine ⟨vp_in_nI (by omega) (by omega), br_c (fun z => kn' (if_pos z)) (fun z => ?_)⟩
        exact cy_nu (m := 0) (by omega) rfl ha hb (by omega) (ks _ (if_neg z))
  · rw [if_neg hp] at kn'
    simp only [if_neg hp] at ks
    rw [show p / 216 = 0 by omega]
    refine br_f (by decide) (br_f n0 (br_t n12 ?_))
    refine pk_eq c 12 (fun e => br_t rfl ?_) (fun e => br_t rfl ?_)
    · rw [if_pos e] at kn'
      simp only [if_pos e] at ks
      refine br_c (fun z => br_t rfl (kn' (if_pos (hg.mp z)))) (fun z => br_f (by decide) (br_t rfl ?_))
      exact cy_nu (m := 1) (by omega) rfl ha hb ht (ks _ (if_neg (fun y => z (hg.mpr y))))
    · rw [if_neg e] at kn'
      simp only [if_neg e] at ks
      refine pk_le 6 c (fun l => ?_) (fun l => ?_)
      · have n6 : ¬ c < 6 := by omega
        have l12 : c < 12 := by omega
        rw [if_neg n6, if_pos l12] at kn'
        simp only [if_neg n6, if_pos l12] at ks
        have e1 : nI (cq_b p) * 6 + nI c - 6 = nI (cq_b p * 6 + (c - 6)) := by
          rw [cy_ix, show (6 : Int32) = nI 6 from rfl, pk_sub (by omega)]
          exact congrArg nI (by omega)
        have e2 : nI c - 6 = nI (c - 6) := pk_sub (b := 6) (by omega)
        rw [e1, nI_clamp (by omega), e2]
        refine ⟨vp_in_nI (by omega) (by omega), br_c (fun z => kn' (if_pos z)) (fun z => ?_)⟩
        exact cy_nu (m := 1) (by omega) rfl ha (by omega) ht (ks _ (if_neg z))
      · rw [if_pos l] at kn'
        simp only [if_pos l] at ks
        rw [cy_ix, nI_clamp (by omega)]
        refine ⟨vp_in_nI (by omega) (by omega), br_c (fun z => kn' (if_pos z)) (fun z => ?_)⟩
        exact cy_nu (m := 1) (by omega) rfl (by omega) hb ht (ks _ (if_neg z))
theorem cy_afx {post : Int32 → Prop} {p : Nat} {v : Int32} (h : p < 432) (hv : v < 0 ∨ nI 13 ≤ v) (k : post (-1)) :
    wpY_after post (ws, pl, kn, D, E, bW, bL) (nI (cq_y p)) v := by
  unfold wpY_after
  dsimp only
  refine ⟨by decide, nm_r (cy_eA h) ⟨by decide, by decide, nm_r (cy_eB h) ⟨by decide, by decide, nm_r (cy_eT h) ⟨by decide, ?_⟩⟩⟩⟩
  by_cases z : v < 0
  · exact br_c (fun _ => br_t z k) (fun _ => br_t z k)
  · have n : ¬ v ≤ 12 := fun l => absurd (Int32.le_trans (hv.resolve_left z) l) (by decide)
    exact br_c (fun _ => br_f z (br_f n k)) (fun _ => br_f z (br_f n k))
end
end
section
-- the reference's rounds
section
variable {ws pl kn : Int32} {D E : Nat → Int32} {g w : Int32}
theorem cy_67 {post : Int32 → Prop} {J : Int32 → Int32 → Prop} {bW bL : Nat → Int32} {p c q : Nat} {r x1 x4 : Int32} (hq : cq_A D g w p c = some q)
    (hm : ¬ cq_G (fun q => bW (cq_y q)) (fun q => bL (cq_y q)) r (cq_mv p) q) (s : cq_S (cq_A D g w) (fun q => bW (cq_y q)) (fun q => bL (cq_y q)) p r c (x4 = 0))
    (ih : ∀ x : Int32, cq_S (cq_A D g w) (fun q => bW (cq_y q)) (fun q => bL (cq_y q)) p r (c + 1) (x = 0) → J x (nI (c + 1))) :
    wY_follows_67 post J x1 r (cq_ot p) x4 (nI c) (nI (cq_y q)) ws pl kn D E bW bL := by
  have hl := cq_ylt q (cq_Al p c q hq)
  have hv : vp_in (nI (cq_y q)) 432 := vp_in_nI hl (by omega)
  unfold wY_follows_67
  refine ⟨hv, ?_⟩
  rw [nI_clamp (by omega)]
  refine br_c (fun e => ⟨hv, br_c (fun l => nm_r (nI_1 c) (ih x4 (cq_Sk hq ⟨e, l⟩ s))) (fun l => nm_r (nI_1 c) (ih 0 (cq_So hq hm (fun G => l G.2) s rfl)))⟩) (fun e => nm_r (nI_1 c) (ih 0 (cq_So hq hm (fun G => e G.1) s rfl)))
theorem cy_foL {post : Int32 → Prop} {bW bL : Nat → Int32} {p : Nat} {r : Int32} (hg : ws &&& 1 = 0 ↔ g = 0) (hw : ws &&& 2 = 0 ↔ w = 0) (h : p < 432)
    (k : ∀ v, cq_FO (cq_A D g w) (fun q => bW (cq_y q)) (fun q => bL (cq_y q)) p r v → post v) : ∀ (d c : Nat) (x4 : Int32), c + d = 13 →
    cq_S (cq_A D g w) (fun q => bW (cq_y q)) (fun q => bL (cq_y q)) p r c (x4 = 0) →
    wY_follows_14 post (nI (cq_y p)) r (cq_ot p) ws pl kn D E bW bL (d + 1) x4 (nI c) := by
  intro d
  induction d with
  | zero =>
    intro c x4 hc s
    have hc' : c = 13 := by omega
    subst hc'
    exact br_t (by decide) (br_c (fun z => k 0 (cq_S13 s z)) (fun z => k _ (cq_S13n s z)))
  | succ d ih =>
    intro c x4 hc s
    refine br_f ?_ (cy_af hg hw h (by omega) (fun hn => ?_) (fun q hq => ?_))
    · exact fun l => absurd ((nI_ltI (a := 12) (by omega) (by omega)).mp l) (by omega)
    · exact br_t (by decide) (nm_r (nI_1 c) (ih (c + 1) x4 (by omega) (cq_Sn hn s)))
    · have hl := cq_ylt q (cq_Al p c q hq)
      have hv : vp_in (nI (cq_y q)) 432 := vp_in_nI hl (by omega)
      refine br_f (nI_pos (by omega)) ⟨hv, cy_mv h ?_⟩
      rw [nI_clamp (by omega)]
      refine br_c (fun e => ⟨hv, br_c (fun l => ?_) (fun l => cy_mv h (k _ (cq_Sm (by omega) hq ⟨e, Int32.not_le.mp l⟩)))⟩) (fun e => ?_)
      · exact cy_67 hq (fun G => absurd l (Int32.not_le.mpr G.2)) s (fun x sx => ih (c + 1) x (by omega) sx)
      · exact cy_67 hq (fun G => e G.1) s (fun x sx => ih (c + 1) x (by omega) sx)
theorem cy_fo {post : Int32 → Prop} {bW bL : Nat → Int32} {p : Nat} {r : Int32} (hg : ws &&& 1 = 0 ↔ g = 0) (hw : ws &&& 2 = 0 ↔ w = 0) (h : p < 432)
    (k : ∀ v, cq_FO (cq_A D g w) (fun q => bW (cq_y q)) (fun q => bL (cq_y q)) p r v → post v) : wpY_follows post (ws, pl, kn, D, E, bW, bL) (nI (cq_y p)) r := by
  have e : 3 - cq_mv p = cq_ot p := by
    by_cases hp : 216 ≤ p
    · rw [show cq_mv p = 2 from if_pos hp, show cq_ot p = 1 from if_pos hp]; decide
    · rw [show cq_mv p = 1 from if_neg hp, show cq_ot p = 2 from if_neg hp]; decide
  unfold wpY_follows
  dsimp only
  exact cy_mv h (nm_r e ⟨14, cy_foL hg hw h k 13 0 1 rfl (cq_S0 (by decide))⟩)
theorem cy_129 {post : SY → Prop} {J59 J75 : Int32 → Int32 → (Nat → Int32) → (Nat → Int32) → (Nat → Int32) → (Nat → Int32) → Prop} {bW bL : Nat → Int32} {s v i : Nat} {x2 z0 : Int32}
    (hi : i < 432) (hv : bW i = nI v) (k : J75 (nI (s + v)) (nI (i + 1)) D E bW (upd bL i z0)) :
    wY_workOut_129 post J59 J75 x2 (nI s) (nI i) z0 (nI i) ws pl kn D E bW bL := by
  have hin : vp_in (nI i) 432 := vp_in_nI hi (by omega)
  unfold wY_workOut_129
  rw [nI_clamp (by omega)]
  refine ⟨hin, nm_e ⟨hin, nm_r (e' := nI (s + v)) ?_ (nm_r (nI_1 i) k)⟩⟩
  rw [hv, nI_add]
theorem cq_n3 {x : Int32} (h : x = 0 ∨ x = 1 ∨ x = 2) : ∃ v : Nat, v ≤ 2 ∧ x = nI v := by
  rcases h with h | h | h
  · exact ⟨0, by omega, h⟩
  · exact ⟨1, by omega, h⟩
  · exact ⟨2, by omega, h⟩
theorem cy_75 {post : SY → Prop} {J59 : Int32 → Int32 → (Nat → Int32) → (Nat → Int32) → (Nat → Int32) → (Nat → Int32) → Prop} {W L : Nat → Int32} {r : Nat}
    (hg : ws &&& 1 = 0 ↔ g = 0) (hw : ws &&& 2 = 0 ↔ w = 0) (hr : r < 432) (ok : cq_Ok W L r)
    (k : ∀ (x1 : Int32) (bW bL : Nat → Int32), (∀ q, q < 432 → bW (cq_y q) = cq_sW (cq_A D g w) W L r q ∧ bL (cq_y q) = cq_sL (cq_A D g w) W L r q) →
      (x1 = 0 → 0 < r ∧ ∀ p, p < 432 → W p = 0 → cq_fo (cq_A D g w) W L p (nI r) = 0) → J59 x1 (nI (r + 1)) D E bW bL) :
    ∀ (d i s : Nat) (bW bL : Nat → Int32), i + d = 432 → cq_sd (cq_A D g w) W L r cq_y bW bL i → s ≤ 2 * i → (s = 0 → cq_nf (cq_A D g w) W L r cq_y i) →
      wY_workOut_75 post J59 (nI r) ws pl kn (d + 1) (nI s) (nI i) D E bW bL := by
  intro d
  induction d with
  | zero =>
    intro i s bW bL hi sd hs hn
    have hi' : i = 432 := by omega
    subst hi'
    have fin : ∀ q, q < 432 → bW (cq_y q) = cq_sW (cq_A D g w) W L r q ∧ bL (cq_y q) = cq_sL (cq_A D g w) W L r q := fun q hq => (sd q hq).1 (cq_ylt q hq)
    refine br_t (by decide) ?_
    by_cases z : r = 0
    · subst z
      exact br_t rfl (nm_r (nI_1 0) (k 1 bW bL fin (fun o => absurd o (by decide))))
    · refine br_f (nI_ne0 (by omega) (by omega)) (pk_le s 0 (fun l => ?_) (fun l => ?_))
      · exact nm_r (nI_1 r) (k 0 bW bL fin (fun _ => ⟨by omega, fun p hp => hn (by omega) p hp (cq_ylt p hp)⟩))
      · exact nm_r (nI_1 r) (k 1 bW bL fin (fun o => absurd o (by decide)))
  | succ d ih =>
    intro i s bW bL hi sd hs hn
    have hl : i < 432 := by omega
    have hv : vp_in (nI i) 432 := vp_in_nI hl (by omega)
    obtain ⟨p, hp, ep⟩ : ∃ p, p < 432 ∧ cq_y p = i := ⟨cq_x i, cq_xlt i hl, cq_yx i hl⟩
    have inj : ∀ q, q < 432 → cq_y q = i → q = p := fun q hq e => cq_yinj hq hp (e.trans ep.symm)
    have old := (sd p hp).2 (by omega)
    rw [ep] at old
    refine br_f (nI_ge (b := 432) hl (by decide)) ⟨hv, ?_⟩
    rw [nI_clamp (by omega)]
    refine br_c (fun z => ?_) (fun z => nm_r (nI_1 i) (ih (i + 1) s bW bL (by omega) ?_ (by omega) ?_))
    · have z' : W p = 0 := old.1.symm.trans z
      rw [← ep]
      refine cy_fo hg hw hp (fun v fv => ?_)
      rw [ep]
      have ev : v = cq_fo (cq_A D g w) W L p (nI r) := cq_sdF (fun c q hq => cq_Al p c q hq) sd fv
      obtain ⟨n, hn2, en⟩ := cq_n3 (cq_fo3 (cq_A D g w) W L p (nI r))
      refine ⟨hv, nm_e ⟨hv, ?_⟩⟩
      have es : upd bW i v i = v := pk_us
      rw [es]
      refine br_c (fun f => cy_129 (v := n) hl (es.trans (ev.trans en)) (ih (i + 1) (s + n) _ _ (by omega) ?_ (by omega) ?_)) (fun f => cy_129 (v := n) hl (es.trans (ev.trans en)) (ih (i + 1) (s + n) _ _ (by omega) ?_ (by omega) ?_))
      · have t := cq_sw3 hp z' (ev.symm.trans f)
        exact cq_sdS sd ep inj (es.trans (f.trans t.1.symm)) (pk_us.trans (((ok p hp).2.1 z').symm.trans t.2.symm)) (fun j hj => ⟨pk_un hj, pk_un hj⟩)
      · exact fun o => cq_nfS (hn (by omega)) inj (fun _ => ev.symm.trans f)
      · have t := cq_sw2 hp z' (fun e => f (ev.trans e))
        exact cq_sdS sd ep inj (es.trans (ev.trans t.1.symm)) (pk_us.trans t.2.symm) (fun j hj => ⟨pk_un hj, pk_un hj⟩)
      · intro o
        have n0 : n = 0 := by omega
        rw [n0] at en
        exact absurd (ev.trans en) f
    · have t := cq_sw1 (A := cq_A D g w) (L := L) (r := r) (fun e => z (old.1.trans e))
      exact cq_sdS sd ep inj (old.1.trans t.1.symm) (old.2.trans t.2.symm) (fun j _ => ⟨rfl, rfl⟩)
    · exact fun o => cq_nfS (hn o) inj (fun e => absurd (old.1.trans e) z)
theorem cy_59 {post : SY → Prop} (hg : ws &&& 1 = 0 ↔ g = 0) (hw : ws &&& 2 = 0 ↔ w = 0)
    (k : ∀ bW bL : Nat → Int32, cq_at (cq_TT D E g w 433) cq_y bW bL → post (ws, pl, 1, D, E, bW, bL)) :
    ∀ (d r : Nat) (x1 : Int32) (bW bL : Nat → Int32), r + d = 432 → cq_at (cq_TT D E g w r) cq_y bW bL → (x1 = 0 → cq_TT D E g w r = cq_TT D E g w 433) →
      wY_workOut_59 post ws pl kn (d + 1) x1 (nI r) D E bW bL := by
  intro d
  induction d with
  | zero =>
    intro r x1 bW bL hr s hx
    have hr' : r = 432 := by omega
    subst hr'
    have s' : cq_at (cq_TT D E g w 433) cq_y bW bL := by
      rw [cq_TTlast]; exact s
    exact br_t (by decide) (k bW bL s')
  | succ d ih =>
    intro r x1 bW bL hr s hx
    refine br_f (nI_ge (b := 432) (by omega) (by decide)) (br_c (fun z => k bW bL ?_) (fun z => ⟨433, ?_⟩))
    · rw [← hx z]; exact s
    refine cy_75 hg hw (by omega) (cq_TTok D E g w r) (fun x1 cW cL hc hn => ?_) 432 0 0 bW bL rfl (cq_sd0 s) (by omega) (fun _ _ _ y => absurd y (Nat.not_lt_zero _))
    exact ih (r + 1) x1 cW cL (by omega) hc (fun y => cq_TTend (hn y).1 (by omega) (hn y).2)
theorem cy_10 {post : SY → Prop} (k : ∀ bW bL : Nat → Int32, cq_at (cq_TT D E g w 0) cq_y bW bL → ∃ n, wY_workOut_59 post ws pl kn n 1 0 D E bW bL) :
    ∀ (d i : Nat) (bW bL : Nat → Int32), i + d = 432 → (∀ q, q < 432 → cq_y q < i → bW (cq_y q) = cq_W0 E q ∧ bL (cq_y q) = cq_L0 E q) →
      wY_workOut_10 post ws pl kn (d + 1) (nI i) D E bW bL := by
  intro d
  induction d with
  | zero =>
    intro i bW bL hi s
    have hi' : i = 432 := by omega
    subst hi'
    exact br_t (by decide) (k bW bL (fun q hq => s q hq (cq_ylt q hq)))
  | succ d ih =>
    intro i bW bL hi s
    have hl : i < 432 := by omega
    have hv : vp_in (nI i) 432 := vp_in_nI hl (by omega)
    obtain ⟨p, hp, ep⟩ : ∃ p, p < 432 ∧ cq_y p = i := ⟨cq_x i, cq_xlt i hl, cq_yx i hl⟩
    have inj : ∀ q, q < 432 → cq_y q = i → q = p := fun q hq e => cq_yinj hq hp (e.trans ep.symm)
    refine br_f (nI_ge (b := 432) hl (by decide)) ?_
    rw [nI_clamp (by omega), ← ep]
    refine cy_ov hp ?_
    rw [ep]
    have es : upd bW i (cq_W0 E p) i = cq_W0 E p := pk_us
    refine ⟨hv, nm_e ⟨hv, ?_⟩⟩
    rw [es]
    refine br_c (fun z => ⟨hv, nm_e (nm_r (nI_1 i) (ih (i + 1) _ _ (by omega) ?_))⟩) (fun z => ⟨hv, nm_e (nm_r (nI_1 i) (ih (i + 1) _ _ (by omega) ?_))⟩)
    · intro q hq hlt
      by_cases e : cq_y q = i
      · have hqp := inj q hq e
        rw [e, hqp]
        exact ⟨pk_us, pk_us.trans (if_pos z).symm⟩
      · exact ⟨(pk_un e).trans (s q hq (by omega)).1, (pk_un e).trans (s q hq (by omega)).2⟩
    · intro q hq hlt
      by_cases e : cq_y q = i
      · have hqp := inj q hq e
        rw [e, hqp]
        exact ⟨pk_us, pk_us.trans (if_neg z).symm⟩
      · exact ⟨(pk_un e).trans (s q hq (by omega)).1, (pk_un e).trans (s q hq (by omega)).2⟩
theorem cy_wo {post : SY → Prop} {bW bL : Nat → Int32} (hg : ws &&& 1 = 0 ↔ g = 0) (hw : ws &&& 2 = 0 ↔ w = 0) (h : kn = 0 ∨ ¬ kn = 0 ∧ cq_at (cq_TT D E g w 433) cq_y bW bL)
    (k : ∀ (kn' : Int32) (cW cL : Nat → Int32), ¬ kn' = 0 → cq_at (cq_TT D E g w 433) cq_y cW cL → post (ws, pl, kn', D, E, cW, cL)) : wpY_workOut post (ws, pl, kn, D, E, bW, bL) := by
  unfold wpY_workOut
  dsimp only
  refine br_c (fun z => ⟨433, ?_⟩) (fun z => k kn bW bL z (h.resolve_left z).2)
  exact cy_10 (g := g) (w := w) (fun cW cL hc => ⟨433, cy_59 hg hw (fun dW dL hd => k 1 dW dL (by decide) hd) 432 0 1 cW cL rfl hc (fun o => absurd o (by decide))⟩) 432 0 bW bL rfl
    (fun _ _ o => absurd o (Nat.not_lt_zero _))
end
end
section
-- total, longest, best over the finished table
section
variable {T : (Nat → Int32) × (Nat → Int32)} {who : Int32}
theorem cq_ct1 {P : Nat → Bool} {i : Nat} (h : P i = true) : cq_ct P (i + 1) = cq_ct P i + 1 := by
  show cq_ct P i + (if P i = true then 1 else 0) = _
  rw [if_pos h]
theorem cq_ct0 {P : Nat → Bool} {i : Nat} (h : ¬ P i = true) : cq_ct P (i + 1) = cq_ct P i := by
  show cq_ct P i + (if P i = true then 1 else 0) = _
  rw [if_neg h]
  exact Nat.add_zero _
theorem cx_toL {post : Int32 → Prop} {g w cu : Int32} {D E aW aL : Nat → Int32} {P : Nat → Bool} (h : ∀ i, i < 432 → (aW i = who ↔ P i = true)) (k : post (nI (cq_ct P 432))) :
    ∀ d i : Nat, i + d = 432 → wX_total_4 post who g w cu D E aW aL (d + 1) (nI (cq_ct P i)) (nI i) := by
  intro d
  induction d with
  | zero =>
    intro i hi
    have hi' : i = 432 := by omega
    subst hi'
    exact br_t (by decide) k
  | succ d ih =>
    intro i hi
    have hl : i < 432 := by omega
    refine br_f (nI_ge (b := 432) hl (by decide)) ⟨vp_in_nI hl (by omega), ?_⟩
    rw [nI_clamp (by omega)]
    have s := ih (i + 1) (by omega)
    refine br_c (fun z => nm_r (nI_1 _) (nm_r (nI_1 i) ?_)) (fun z => nm_r (nI_1 i) ?_)
    · rw [cq_ct1 ((h i hl).mp z)] at s; exact s
    · rw [cq_ct0 (fun y => z ((h i hl).mpr y))] at s; exact s
theorem cy_toL {post : Int32 → SY → Prop} {ws pl kn : Int32} {D E bW bL : Nat → Int32} {P : Nat → Bool} (h : ∀ i, i < 432 → (bW i = who ↔ P i = true))
    (k : post (nI (cq_ct P 432)) (ws, pl, kn, D, E, bW, bL)) :
    ∀ d i : Nat, i + d = 432 → wY_total_8 post who ws pl kn D E bW bL (d + 1) (nI (cq_ct P i)) (nI i) := by
  intro d
  induction d with
  | zero =>
    intro i hi
    have hi' : i = 432 := by omega
    subst hi'
    exact br_t (by decide) k
  | succ d ih =>
    intro i hi
    have hl : i < 432 := by omega
    refine br_f (nI_ge (b := 432) hl (by decide)) ⟨vp_in_nI hl (by omega), ?_⟩
    rw [nI_clamp (by omega)]
    have s := ih (i + 1) (by omega)
    refine br_c (fun z => nm_r (nI_1 _) (nm_r (nI_1 i) ?_)) (fun z => nm_r (nI_1 i) ?_)
    · rw [cq_ct1 ((h i hl).mp z)] at s; exact s
    · rw [cq_ct0 (fun y => z ((h i hl).mpr y))] at s; exact s
theorem cq_atx {bW bL : Nat → Int32} (h : cq_at T cq_y bW bL) {i : Nat} (hi : i < 432) : bW i = T.1 (cq_x i) ∧ bL i = T.2 (cq_x i) := by
  have s := h (cq_x i) (cq_xlt i hi)
  rw [cq_yx i hi] at s
  exact s
theorem cx_total {post : Int32 → Prop} {g w cu : Int32} {D E aW aL : Nat → Int32} (h : cq_at T (fun q => q) aW aL) (k : post (nI (cq_ct (fun p => decide (T.1 p = who)) 432))) :
    wpX_total post (g, w, cu, D, E, aW, aL) who :=
  ⟨433, cx_toL (P := fun p => decide (T.1 p = who)) (fun i hi => by rw [show aW i = T.1 i from (h i hi).1]; exact decide_eq_true_iff.symm) k 432 0 rfl⟩
theorem cy_totalL {post : Int32 → SY → Prop} {ws pl kn : Int32} {D E bW bL : Nat → Int32} (h : cq_at T cq_y bW bL)
    (k : post (nI (cq_ct (fun p => decide (T.1 p = who)) 432)) (ws, pl, kn, D, E, bW, bL)) : ∃ n, wY_total_8 post who ws pl kn D E bW bL n 0 0 := by
  rw [← cq_ctx (fun p => decide (T.1 p = who))] at k
  exact ⟨433, cy_toL (P := fun q => decide (T.1 (cq_x q) = who)) (fun i hi => by rw [(cq_atx h hi).1]; exact decide_eq_true_iff.symm) k 432 0 rfl⟩

theorem cq_gr0 (W L : Nat → Int32) (e : Nat → Nat) (who : Int32) : cq_gr W L e who 0 (-3) := ⟨fun _ _ h => absurd h (Nat.not_lt_zero _), Or.inl rfl⟩
theorem cq_grA {W L : Nat → Int32} {e : Nat → Nat} {i p : Nat} {v : Int32} (inj : ∀ q, q < 432 → e q = i → q = p) (h : W p = who → L p ≤ v) (s : cq_gr W L e who i v) : cq_gr W L e who (i + 1) v := by
  refine ⟨fun q hq hl hw => ?_, s.2⟩
  by_cases z : e q = i
  · have hqp := inj q hq z
    subst hqp
    exact h hw
  · exact s.1 q hq (by omega) hw
theorem cq_grB {W L : Nat → Int32} {e : Nat → Nat} {i p : Nat} {v : Int32} (hp : p < 432) (inj : ∀ q, q < 432 → e q = i → q = p) (h : W p = who) (hn : ¬ L p ≤ v) (s : cq_gr W L e who i v) :
    cq_gr W L e who (i + 1) (L p) := by
  have hlt : v < L p := Int32.not_le.mp hn
  refine ⟨fun q hq hl hw => ?_, Or.inr ⟨p, hp, h, rfl, ?_⟩⟩
  · by_cases z : e q = i
    · have hqp := inj q hq z
      subst hqp
      exact Int32.le_refl _
    · exact Int32.le_of_lt (Int32.lt_of_le_of_lt (s.1 q hq (by omega) hw) hlt)
  · rcases s.2 with z | ⟨_, _, _, _, z⟩
    · rw [z] at hlt; exact hlt
    · exact Int32.lt_trans z hlt
theorem cx_loL {post : Int32 → Prop} {g w cu : Int32} {D E aW aL : Nat → Int32} (h : cq_at T (fun q => q) aW aL) (k : ∀ v, cq_gr T.1 T.2 (fun q => q) who 432 v → post v) :
    ∀ (d i : Nat) (v : Int32), i + d = 432 → cq_gr T.1 T.2 (fun q => q) who i v → wX_longest_5 post who g w cu D E aW aL (d + 1) v (nI i) := by
  intro d
  induction d with
  | zero =>
    intro i v hi s
    have hi' : i = 432 := by omega
    subst hi'
    exact br_t (by decide) (k v s)
  | succ d ih =>
    intro i v hi s
    have hl : i < 432 := by omega
    have hv : vp_in (nI i) 432 := vp_in_nI hl (by omega)
    have inj : ∀ q, q < 432 → (fun q : Nat => q) q = i → q = i := fun q _ e => e
    refine br_f (nI_ge (b := 432) hl (by decide)) ⟨hv, ?_⟩
    rw [nI_clamp (by omega), show aW i = T.1 i from (h i hl).1, show aL i = T.2 i from (h i hl).2]
    refine br_c (fun z => ⟨hv, br_c (fun l => nm_r (nI_1 i) (ih (i + 1) v (by omega) (cq_grA inj (fun _ => l) s))) (fun l => ⟨hv, nm_e (nm_r (nI_1 i) (ih (i + 1) _ (by omega) (cq_grB hl inj z l s)))⟩)⟩) (fun z => nm_r (nI_1 i) (ih (i + 1) v (by omega) (cq_grA inj (fun y => absurd y z) s)))
theorem cy_loL {post : Int32 → SY → Prop} {ws pl kn : Int32} {D E bW bL : Nat → Int32} (h : cq_at T cq_y bW bL) (k : ∀ v, cq_gr T.1 T.2 cq_y who 432 v → post v (ws, pl, kn, D, E, bW, bL)) :
    ∀ (d i : Nat) (v : Int32), i + d = 432 → cq_gr T.1 T.2 cq_y who i v → wY_longest_9 post who ws pl kn D E bW bL (d + 1) v (nI i) := by
  intro d
  induction d with
  | zero =>
    intro i v hi s
    have hi' : i = 432 := by omega
    subst hi'
    exact br_t (by decide) (k v s)
  | succ d ih =>
    intro i v hi s
    have hl : i < 432 := by omega
    have hv : vp_in (nI i) 432 := vp_in_nI hl (by omega)
    have hx := cq_xlt i hl
    have inj : ∀ q, q < 432 → cq_y q = i → q = cq_x i := fun q hq e => cq_yinj hq hx (e.trans (cq_yx i hl).symm)
    refine br_f (nI_ge (b := 432) hl (by decide)) ⟨hv, ?_⟩
    rw [nI_clamp (by omega), (cq_atx h hl).1, (cq_atx h hl).2]
    refine br_c (fun z => ⟨hv, br_c (fun l => nm_r (nI_1 i) (ih (i + 1) v (by omega) (cq_grA inj (fun _ => l) s))) (fun l => ⟨hv, nm_e (nm_r (nI_1 i) (ih (i + 1) _ (by omega) (cq_grB hx inj z l s)))⟩)⟩) (fun z => nm_r (nI_1 i) (ih (i + 1) v (by omega) (cq_grA inj (fun y => absurd y z) s)))

-- the best move
def cq_K (T : (Nat → Int32) × (Nat → Int32)) (p q : Nat) : Prop := T.1 q = T.1 p ∧ (T.1 p = 0 ∨ T.2 q = T.2 p - 1)
def cq_Q (T : (Nat → Int32) × (Nat → Int32)) (D : Nat → Int32) (g w : Int32) (p c : Nat) : Prop := ∃ q, cq_A D g w p c = some q ∧ cq_K T p q
def cq_B (T : (Nat → Int32) × (Nat → Int32)) (D E : Nat → Int32) (g w : Int32) (p : Nat) (v : Int32) : Prop :=
  (¬ cq_W0 E p = 0 ∧ v = -2) ∨ (cq_W0 E p = 0 ∧ cq_be (cq_Q T D g w p) v)
theorem cq_Bu {D E : Nat → Int32} {g w : Int32} {p : Nat} {v v' : Int32} (h : cq_B T D E g w p v) (h' : cq_B T D E g w p v') : v = v' := by
  rcases h with ⟨z, e⟩ | ⟨z, e⟩
  · rcases h' with ⟨z', e'⟩ | ⟨z', e'⟩
    · rw [e, e']
    · exact absurd z' z
  · rcases h' with ⟨z', e'⟩ | ⟨z', e'⟩
    · exact absurd z z'
    · exact cq_beu e e'
theorem cq_Qs {D : Nat → Int32} {g w : Int32} {p c q : Nat} (hq : cq_A D g w p c = some q) (hn : ¬ cq_K T p q) : ¬ cq_Q T D g w p c := by
  rintro ⟨q', e, hk⟩
  rw [hq] at e
  cases e
  exact hn hk
theorem cq_Qn {D : Nat → Int32} {g w : Int32} {p c : Nat} (hq : cq_A D g w p c = none) : ¬ cq_Q T D g w p c := by
  rintro ⟨q', e, hk⟩
  rw [hq] at e
  exact nomatch e
theorem cx_kt {post : Int32 → Prop} {g w cu : Int32} {D E aW aL : Nat → Int32} {p q : Nat} (h : cq_at T (fun q => q) aW aL) (hp : p < 432) (hq : q < 432)
    (k1 : cq_K T p q → post 1) (k0 : ¬ cq_K T p q → post 0) : wpX_keepsToTable post (g, w, cu, D, E, aW, aL) (nI p) (nI q) := by
  have vp : vp_in (nI p) 432 := vp_in_nI hp (by omega)
  have vq : vp_in (nI q) 432 := vp_in_nI hq (by omega)
  unfold wpX_keepsToTable
  dsimp only
  rw [nI_clamp (show p < 2 ^ 31 by omega), nI_clamp (show q < 2 ^ 31 by omega), show aW p = T.1 p from (h p hp).1, show aL p = T.2 p from (h p hp).2, show aW q = T.1 q from (h q hq).1, show aL q = T.2 q from (h q hq).2]
  exact ⟨vq, vp, br_c (fun e => ⟨vp, br_c (fun z => k1 ⟨e, Or.inl z⟩) (fun z => ⟨vq, vp, br_c (fun l => k1 ⟨e, Or.inr l⟩) (fun l => k0 (fun K => K.2.elim z l))⟩)⟩) (fun e => k0 (fun K => e K.1))⟩
theorem cq_m1 {q : Nat} (h : q < 432) : ¬ nI q = -1 := fun z => absurd (z ▸ nI_pos (n := q) (by omega) : ¬ (-1 : Int32) < 0) (by decide)
theorem cx_beL {post : Int32 → Prop} {g w : Int32} {D E aW aL : Nat → Int32} {p : Nat} (h : cq_at T (fun q => q) aW aL) (hp : p < 432) (k : ∀ v, cq_be (cq_Q T D g w p) v → post v) :
    ∀ d c : Nat, c + d = 13 → (∀ j, j < c → ¬ cq_Q T D g w p j) → wX_best_16 post g w (nI p) D E aW aL (d + 1) (nI c) := by
  intro d
  induction d with
  | zero =>
    intro c hc s
    have hc' : c = 13 := by omega
    subst hc'
    exact br_t (by decide) (k (-2) (Or.inr ⟨rfl, s⟩))
  | succ d ih =>
    intro c hc s
    have ext : ¬ cq_Q T D g w p c → ∀ j, j < c + 1 → ¬ cq_Q T D g w p j := by
      intro n j hj
      by_cases e : j = c
      · rw [e]; exact n
      · exact s j (by omega)
    refine br_f ?_ (cx_af hp (by omega) (fun hn => br_t rfl (nm_r (nI_1 c) (ih (c + 1) (by omega) (ext (cq_Qn hn))))) (fun q hq => br_f (cq_m1 (cq_Al p c q hq)) ?_))
    · exact fun l => absurd ((nI_ltI (a := 12) (by omega) (by omega)).mp l) (by omega)
    · refine cx_kt h hp (cq_Al p c q hq) (fun K => ?_) (fun K => ?_)
      · exact br_f (by decide) (k (nI c) (Or.inl ⟨c, by omega, rfl, ⟨q, hq, K⟩, s⟩))
      · exact br_t rfl (nm_r (nI_1 c) (ih (c + 1) (by omega) (ext (cq_Qs hq K))))
theorem cx_best {post : Int32 → Prop} {g w : Int32} {D E aW aL : Nat → Int32} {p : Nat} (h : cq_at T (fun q => q) aW aL) (hp : p < 432) (k : ∀ v, cq_B T D E g w p v → post v) :
    wpX_best post (g, w, nI p, D, E, aW, aL) := by
  unfold wpX_best
  dsimp only
  exact cx_wo hp (br_c (fun z => ⟨14, cx_beL h hp (fun v hv => k v (Or.inr ⟨z, hv⟩)) 13 0 rfl (fun j hj => absurd hj (Nat.not_lt_zero _))⟩) (fun z => k (-2) (Or.inl ⟨z, rfl⟩)))
end
section
variable {T : (Nat → Int32) × (Nat → Int32)} {ws kn g w : Int32} {D E : Nat → Int32} {p : Nat}
theorem cy_cmL {post : Int32 → Prop} {pl : Int32} {bW bL : Nat → Int32} (hg : ws &&& 1 = 0 ↔ g = 0) (hw : ws &&& 2 = 0 ↔ w = 0) (hp : p < 432) (k0 : (∀ c, c < 13 → cq_A D g w p c = none) → post 0) (k1 : post 1) :
    ∀ d c : Nat, c + d = 13 → (∀ j, j < c → cq_A D g w p j = none) → wY_canMove_12 post (nI (cq_y p)) ws pl kn D E bW bL (d + 1) (nI c) := by
  intro d
  induction d with
  | zero =>
    intro c hc s
    have hc' : c = 13 := by omega
    subst hc'
    exact br_t (by decide) (k0 s)
  | succ d ih =>
    intro c hc s
    refine br_f ?_ (cy_af hg hw hp (by omega) (fun hn => br_t (by decide) (nm_r (nI_1 c) (ih (c + 1) (by omega) ?_))) (fun q hq => br_f (nI_pos ?_) k1))
    · exact fun l => absurd ((nI_ltI (a := 12) (by omega) (by omega)).mp l) (by omega)
    · intro j hj
      by_cases e : j = c
      · rw [e]; exact hn
      · exact s j (by omega)
    · have := cq_ylt q (cq_Al p c q hq)
      omega
theorem cy_beL {post : Int32 → SY → Prop} {bW bL : Nat → Int32} (hg : ws &&& 1 = 0 ↔ g = 0) (hw : ws &&& 2 = 0 ↔ w = 0) (h : cq_at T cq_y bW bL) (hp : p < 432)
    (k : ∀ v, cq_be (cq_Q T D g w p) v → post v (ws, nI (cq_y p), kn, D, E, bW, bL)) :
    ∀ d c : Nat, c + d = 13 → (∀ j, j < c → ¬ cq_Q T D g w p j) → wY_best_20 post ws (nI (cq_y p)) kn D E bW bL (d + 1) (nI c) := by
  intro d
  induction d with
  | zero =>
    intro c hc s
    have hc' : c = 13 := by omega
    subst hc'
    exact br_t (by decide) (k (-2) (Or.inr ⟨rfl, s⟩))
  | succ d ih =>
    intro c hc s
    have ext : ¬ cq_Q T D g w p c → ∀ j, j < c + 1 → ¬ cq_Q T D g w p j := by
      intro n j hj
      by_cases e : j = c
      · rw [e]; exact n
      · exact s j (by omega)
    have hyp := cq_ylt p hp
    refine br_f ?_ (cy_af hg hw hp (by omega) (fun hn => br_t (by decide) (nm_r (nI_1 c) (ih (c + 1) (by omega) (ext (cq_Qn hn))))) (fun q hq => ?_))
    · exact fun l => absurd ((nI_ltI (a := 12) (by omega) (by omega)).mp l) (by omega)
    · have hq' := cq_Al p c q hq
      have hyq := cq_ylt q hq'
      have vp : vp_in (nI (cq_y p)) 432 := vp_in_nI hyp (by omega)
      have vq : vp_in (nI (cq_y q)) 432 := vp_in_nI hyq (by omega)
      have yes : cq_K T p q → post (nI c) (ws, nI (cq_y p), kn, D, E, bW, bL) := fun K => k (nI c) (Or.inl ⟨c, by omega, rfl, ⟨q, hq, K⟩, s⟩)
      have no : ¬ cq_K T p q → wY_best_20 post ws (nI (cq_y p)) kn D E bW bL (d + 1) (nI (c + 1)) := fun K => ih (c + 1) (by omega) (ext (cq_Qs hq K))
      refine br_f (nI_pos (by omega)) ⟨vq, vp, ?_⟩
      rw [nI_clamp (show cq_y p < 2 ^ 31 by omega), nI_clamp (show cq_y q < 2 ^ 31 by omega), (h p hp).1, (h p hp).2, (h q hq').1, (h q hq').2]
      exact br_c (fun e => ⟨vp, br_c (fun z => yes ⟨e, Or.inl z⟩) (fun z => ⟨vq, vp, br_c (fun l => yes ⟨e, Or.inr l⟩) (fun l => nm_r (nI_1 c) (no (fun K => K.2.elim z l)))⟩)⟩) (fun e => nm_r (nI_1 c) (no (fun K => e K.1)))
theorem cy_best {post : Int32 → SY → Prop} {bW bL : Nat → Int32} (hg : ws &&& 1 = 0 ↔ g = 0) (hw : ws &&& 2 = 0 ↔ w = 0) (h : kn = 0 ∨ ¬ kn = 0 ∧ cq_at (cq_TT D E g w 433) cq_y bW bL) (hp : p < 432)
    (k : ∀ (v kn' : Int32) (cW cL : Nat → Int32), cq_B (cq_TT D E g w 433) D E g w p v → (kn' = 0 ∨ ¬ kn' = 0 ∧ cq_at (cq_TT D E g w 433) cq_y cW cL) → post v (ws, nI (cq_y p), kn', D, E, cW, cL)) :
    wpY_best post (ws, nI (cq_y p), kn, D, E, bW, bL) := by
  unfold wpY_best
  dsimp only
  unfold wpY_canMove
  dsimp only
  refine cy_ov hp (br_c (fun z => ⟨14, cy_cmL hg hw hp (fun hn => ?_) ?_ 13 0 rfl (fun j hj => absurd hj (Nat.not_lt_zero _))⟩) (fun z => br_t rfl (k (-2) kn bW bL (Or.inl ⟨z, rfl⟩) h)))
  · exact br_t rfl (k (-2) kn bW bL (Or.inr ⟨z, Or.inr ⟨rfl, fun c hc => cq_Qn (hn c hc)⟩⟩) h)
  · refine br_f (by decide) (cy_wo hg hw h (fun kn' cW cL hk hc => ?_))
    exact ⟨14, cy_beL hg hw hc hp (fun v hv => k v kn' cW cL (Or.inr ⟨z, hv⟩) (Or.inr ⟨hk, hc⟩)) 13 0 rfl (fun j hj => absurd hj (Nat.not_lt_zero _))⟩
end
end
section
-- the methods that ask for places
def cq_no (v : Int32) : Prop := v < 0 ∨ nI 6 ≤ v
theorem cq_1 (v : Int32) : cq_no v ∨ ∃ a : Nat, a < 6 ∧ v = nI a := by
  rcases pk_ix v (n := 6) (by omega) with h | h | h
  · exact Or.inl (Or.inl h)
  · exact Or.inl (Or.inr h)
  · exact Or.inr h
def cq_nob (v1 v2 v3 : Int32) : Prop := cq_no v1 ∨ (∃ a : Nat, a < 6 ∧ v1 = nI a) ∧ (cq_no v2 ∨ (∃ b : Nat, b < 6 ∧ v2 = nI b) ∧ cq_no v3)
theorem cq_3 (v1 v2 v3 : Int32) : cq_nob v1 v2 v3 ∨ ∃ a b t : Nat, a < 6 ∧ b < 6 ∧ t < 6 ∧ v1 = nI a ∧ v2 = nI b ∧ v3 = nI t := by
  rcases cq_1 v1 with h1 | ⟨a, ha, e1⟩
  · exact Or.inl (Or.inl h1)
  · rcases cq_1 v2 with h2 | ⟨b, hb, e2⟩
    · exact Or.inl (Or.inr ⟨⟨a, ha, e1⟩, Or.inl h2⟩)
    · rcases cq_1 v3 with h3 | ⟨t, ht, e3⟩
      · exact Or.inl (Or.inr ⟨⟨a, ha, e1⟩, Or.inr ⟨⟨b, hb, e2⟩, h3⟩⟩)
      · exact Or.inr ⟨a, b, t, ha, hb, ht, e1, e2, e3⟩
theorem cq_bz (v : Int32) : ∃ m : Nat, m < 2 ∧ lw_bz v = nI m := by
  rcases lw_bz_01 v with h | h
  · exact ⟨0, by omega, h⟩
  · exact ⟨1, by omega, h⟩
theorem cx_apn {post : Int32 → Prop} {v1 v2 v3 : Int32} (h : cq_nob v1 v2 v3) (k : post 0) : wpX_arePlaces post v1 v2 v3 := by
  unfold wpX_arePlaces
  rcases h with h | ⟨⟨a, ha, rfl⟩, h | ⟨⟨b, hb, rfl⟩, h⟩⟩
  · exact cx_ipn h (br_t rfl k)
  · exact cx_ip ha (br_f (by decide) (cx_ipn h (br_t rfl k)))
  · exact cx_ip ha (br_f (by decide) (cx_ip hb (br_f (by decide) (cx_ipn h (br_t rfl k)))))
theorem cx_ap {post : Int32 → Prop} {a b t : Nat} (ha : a < 6) (hb : b < 6) (ht : t < 6) (k : post 1) : wpX_arePlaces post (nI a) (nI b) (nI t) := by
  unfold wpX_arePlaces
  exact cx_ip ha (br_f (by decide) (cx_ip hb (br_f (by decide) (cx_ip ht (br_f (by decide) k)))))
section
variable {ws pl kn : Int32} {D E bW bL : Nat → Int32} {A B : Prop}
theorem cy_b3 {a b t : Nat} (ha : a < 6) (hb : b < 6) (ht : t < 6) (k : A) :
    wpY_bad (fun r1 => (r1 = 0 → wpY_bad (fun r2 => (r2 = 0 → wpY_bad (fun r3 => (r3 = 0 → A) ∧ (¬ r3 = 0 → B)) (ws, pl, kn, D, E, bW, bL) (nI t)) ∧ (¬ r2 = 0 → B)) (ws, pl, kn, D, E, bW, bL) (nI b)) ∧ (¬ r1 = 0 → B)) (ws, pl, kn, D, E, bW, bL) (nI a) :=
  cy_bad ha (br_t rfl (cy_bad hb (br_t rfl (cy_bad ht (br_t rfl k)))))
theorem cy_b3n {v1 v2 v3 : Int32} (h : cq_nob v1 v2 v3) (k : B) :
    wpY_bad (fun r1 => (r1 = 0 → wpY_bad (fun r2 => (r2 = 0 → wpY_bad (fun r3 => (r3 = 0 → A) ∧ (¬ r3 = 0 → B)) (ws, pl, kn, D, E, bW, bL) v3) ∧ (¬ r2 = 0 → B)) (ws, pl, kn, D, E, bW, bL) v2) ∧ (¬ r1 = 0 → B)) (ws, pl, kn, D, E, bW, bL) v1 := by
  rcases h with h | ⟨⟨a, ha, rfl⟩, h | ⟨⟨b, hb, rfl⟩, h⟩⟩
  · exact cy_badn h (br_f (by decide) k)
  · exact cy_bad ha (br_t rfl (cy_badn h (br_f (by decide) k)))
  · exact cy_bad ha (br_t rfl (cy_bad hb (br_t rfl (cy_badn h (br_f (by decide) k)))))
end
section
variable {g w cu : Int32} {D E aW aL : Nat → Int32} {ws pl kn : Int32} {bW bL : Nat → Int32} {T : (Nat → Int32) × (Nat → Int32)} {a b t m : Nat} {f : Int32}
theorem cx_setn {post : Int32 → SX → Prop} {v1 v2 v3 : Int32} (h : cq_nob v1 v2 v3) (k : post (-1) (g, w, cu, D, E, aW, aL)) : wpX_set post (g, w, cu, D, E, aW, aL) v1 v2 v3 f := by
  unfold wpX_set
  dsimp only
  exact cx_apn h (br_t rfl k)
theorem cx_set {post : Int32 → SX → Prop} (ha : a < 6) (hb : b < 6) (ht : t < 6) (hm : m < 2) (hf : f = nI m) (k : post 0 (g, w, nI (cq_n a b t m), D, E, aW, aL)) :
    wpX_set post (g, w, cu, D, E, aW, aL) (nI a) (nI b) (nI t) f := by
  unfold wpX_set
  dsimp only
  exact cx_ap ha hb ht (br_f (by decide) (cx_nu hm hf k))
theorem cy_setn {post : Int32 → SY → Prop} {v1 v2 v3 : Int32} (h : cq_nob v1 v2 v3) (k : post (-1) (ws, pl, kn, D, E, bW, bL)) : wpY_set post (ws, pl, kn, D, E, bW, bL) v1 v2 v3 f := by
  unfold wpY_set
  dsimp only
  exact cy_b3n h k
theorem cy_set {post : Int32 → SY → Prop} (ha : a < 6) (hb : b < 6) (ht : t < 6) (hm : m < 2) (hf : f = nI m) (k : post 0 (ws, nI (cq_y (cq_n a b t m)), kn, D, E, bW, bL)) :
    wpY_set post (ws, pl, kn, D, E, bW, bL) (nI a) (nI b) (nI t) f := by
  unfold wpY_set
  dsimp only
  exact cy_b3 ha hb ht (cy_nu hm hf ha hb ht k)
theorem cx_oun {post : Int32 → Prop} {v1 v2 v3 : Int32} (h : cq_nob v1 v2 v3) (k : post (-1)) : wpX_outcome post (g, w, cu, D, E, aW, aL) v1 v2 v3 f := by
  unfold wpX_outcome
  dsimp only
  exact cx_apn h (br_t rfl k)
theorem cx_ou {post : Int32 → Prop} (h : cq_at T (fun q => q) aW aL) (ha : a < 6) (hb : b < 6) (ht : t < 6) (hm : m < 2) (hf : f = nI m) (k : post (T.1 (cq_n a b t m))) :
    wpX_outcome post (g, w, cu, D, E, aW, aL) (nI a) (nI b) (nI t) f := by
  have hl := cq_nlt ha hb ht hm
  unfold wpX_outcome
  dsimp only
  refine cx_ap ha hb ht (br_f (by decide) (cx_nu hm hf ⟨vp_in_nI hl (by omega), ?_⟩))
  rw [nI_clamp (by omega), show aW (cq_n a b t m) = _ from (h _ hl).1]
  exact k
theorem cx_len {post : Int32 → Prop} {v1 v2 v3 : Int32} (h : cq_nob v1 v2 v3) (k : post (-1)) : wpX_length post (g, w, cu, D, E, aW, aL) v1 v2 v3 f := by
  unfold wpX_length
  dsimp only
  exact cx_apn h (br_t rfl k)
theorem cx_le {post : Int32 → Prop} (h : cq_at T (fun q => q) aW aL) (ha : a < 6) (hb : b < 6) (ht : t < 6) (hm : m < 2) (hf : f = nI m) (k : post (T.2 (cq_n a b t m))) :
    wpX_length post (g, w, cu, D, E, aW, aL) (nI a) (nI b) (nI t) f := by
  have hl := cq_nlt ha hb ht hm
  unfold wpX_length
  dsimp only
  refine cx_ap ha hb ht (br_f (by decide) (cx_nu hm hf ⟨vp_in_nI hl (by omega), ?_⟩))
  rw [nI_clamp (by omega), show aL (cq_n a b t m) = _ from (h _ hl).2]
  exact k
theorem cy_oun {post : Int32 → SY → Prop} {v1 v2 v3 : Int32} (h : cq_nob v1 v2 v3) (k : post (-1) (ws, pl, kn, D, E, bW, bL)) : wpY_outcome post (ws, pl, kn, D, E, bW, bL) v1 v2 v3 f := by
  unfold wpY_outcome
  dsimp only
  exact cy_b3n h k
theorem cy_len {post : Int32 → SY → Prop} {v1 v2 v3 : Int32} (h : cq_nob v1 v2 v3) (k : post (-1) (ws, pl, kn, D, E, bW, bL)) : wpY_length post (ws, pl, kn, D, E, bW, bL) v1 v2 v3 f := by
  unfold wpY_length
  dsimp only
  exact cy_b3n h k
theorem cy_ou {post : Int32 → SY → Prop} (hg : ws &&& 1 = 0 ↔ g = 0) (hw : ws &&& 2 = 0 ↔ w = 0) (h : kn = 0 ∨ ¬ kn = 0 ∧ cq_at (cq_TT D E g w 433) cq_y bW bL)
    (ha : a < 6) (hb : b < 6) (ht : t < 6) (hm : m < 2) (hf : f = nI m)
    (k : ∀ (kn' : Int32) (cW cL : Nat → Int32), ¬ kn' = 0 → cq_at (cq_TT D E g w 433) cq_y cW cL → post ((cq_TT D E g w 433).1 (cq_n a b t m)) (ws, pl, kn', D, E, cW, cL)) :
    wpY_outcome post (ws, pl, kn, D, E, bW, bL) (nI a) (nI b) (nI t) f := by
  have hl := cq_nlt ha hb ht hm
  have hy := cq_ylt _ hl
  unfold wpY_outcome
  dsimp only
  refine cy_b3 ha hb ht (cy_wo hg hw h (fun kn' cW cL hk hc => cy_nu hm hf ha hb ht ⟨vp_in_nI hy (by omega), ?_⟩))
  dsimp only
  rw [nI_clamp (by omega), (hc _ hl).1]
  exact k kn' cW cL hk hc
theorem cy_le {post : Int32 → SY → Prop} (hg : ws &&& 1 = 0 ↔ g = 0) (hw : ws &&& 2 = 0 ↔ w = 0) (h : kn = 0 ∨ ¬ kn = 0 ∧ cq_at (cq_TT D E g w 433) cq_y bW bL)
    (ha : a < 6) (hb : b < 6) (ht : t < 6) (hm : m < 2) (hf : f = nI m)
    (k : ∀ (kn' : Int32) (cW cL : Nat → Int32), ¬ kn' = 0 → cq_at (cq_TT D E g w 433) cq_y cW cL → post ((cq_TT D E g w 433).2 (cq_n a b t m)) (ws, pl, kn', D, E, cW, cL)) :
    wpY_length post (ws, pl, kn, D, E, bW, bL) (nI a) (nI b) (nI t) f := by
  have hl := cq_nlt ha hb ht hm
  have hy := cq_ylt _ hl
  unfold wpY_length
  dsimp only
  refine cy_b3 ha hb ht (cy_wo hg hw h (fun kn' cW cL hk hc => cy_nu hm hf ha hb ht ⟨vp_in_nI hy (by omega), ?_⟩))
  dsimp only
  rw [nI_clamp (by omega), (hc _ hl).2]
  exact k kn' cW cL hk hc
-- door and exit
def cq_bit (x : Int32) : Int32 := if x = 0 then 0 else 1
theorem cx_do {post : Int32 → SX → Prop} (ha : a < 6) (hb : b < 6) (hne : a ≠ b)
    (k : ∀ cW cL : Nat → Int32, cq_at (cq_TT (upd D (a * 6 + b) (vp_nar .boolean f)) E g w 433) (fun q => q) cW cL → post (cq_bit (D (a * 6 + b))) (g, w, cu, upd D (a * 6 + b) (vp_nar .boolean f), E, cW, cL)) :
    wpX_door post (g, w, cu, D, E, aW, aL) (nI a) (nI b) f := by
  have hv : vp_in (nI (a * 6 + b)) 36 := vp_in_nI (by omega) (by omega)
  have hc : (nI (a * 6 + b)).toNatClampNeg = a * 6 + b := nI_clamp (by omega)
  unfold wpX_door
  dsimp only
  refine cx_ip ha (br_f (by decide) (cx_ip hb (br_f (by decide) (br_f (fun e => hne ((nI_eq (by omega) (by omega)).mp e)) (nm_r cy_ix ⟨hv, ?_⟩)))))
  rw [hc]
  refine br_c (fun z => ⟨hv, ?_⟩) (fun z => ⟨hv, ?_⟩)
  · rw [hc]
    rw [show cq_bit (D (a * 6 + b)) = 0 from if_pos z] at k
    exact nm_e (cx_solve k)
  · rw [hc]
    rw [show cq_bit (D (a * 6 + b)) = 1 from if_neg z] at k
    exact nm_e (cx_solve k)
theorem cy_do {post : Int32 → SY → Prop} (ha : a < 6) (hb : b < 6) (hne : a ≠ b)
    (k : post (cq_bit (D (a * 6 + b))) (ws, pl, 0, upd D (a * 6 + b) (vp_nar .boolean f), E, bW, bL)) :
    wpY_door post (ws, pl, kn, D, E, bW, bL) (nI a) (nI b) f := by
  have hv : vp_in (nI (a * 6 + b)) 36 := vp_in_nI (by omega) (by omega)
  have hc : (nI (a * 6 + b)).toNatClampNeg = a * 6 + b := nI_clamp (by omega)
  unfold wpY_door
  dsimp only
  rw [cy_ix, hc]
  refine cy_bad ha (br_t rfl (cy_bad hb (br_t rfl (br_f (fun e => hne ((nI_eq (by omega) (by omega)).mp e)) ⟨hv, ?_⟩))))
  refine br_c (fun z => ?_) (fun z => ?_)
  · unfold wY_door_45
    rw [cy_ix, hc]
    rw [show cq_bit (D (a * 6 + b)) = 0 from if_pos z] at k
    exact ⟨hv, nm_e k⟩
  · unfold wY_door_45
    rw [cy_ix, hc]
    rw [show cq_bit (D (a * 6 + b)) = 1 from if_neg z] at k
    exact ⟨hv, nm_e k⟩
theorem cx_ex {post : Int32 → SX → Prop} (ha : a < 6)
    (k : ∀ cW cL : Nat → Int32, cq_at (cq_TT D (upd E a (vp_nar .boolean f)) g w 433) (fun q => q) cW cL → post (cq_bit (E a)) (g, w, cu, D, upd E a (vp_nar .boolean f), cW, cL)) :
    wpX_exit post (g, w, cu, D, E, aW, aL) (nI a) f := by
  have hv : vp_in (nI a) 6 := vp_in_nI (by omega) (by omega)
  have hc : (nI a).toNatClampNeg = a := nI_clamp (by omega)
  unfold wpX_exit
  dsimp only
  refine cx_ip ha (br_f (by decide) ⟨hv, ?_⟩)
  rw [hc]
  refine br_c (fun z => ⟨hv, ?_⟩) (fun z => ⟨hv, ?_⟩)
  · rw [hc]
    rw [show cq_bit (E a) = 0 from if_pos z] at k
    exact nm_e (cx_solve k)
  · rw [hc]
    rw [show cq_bit (E a) = 1 from if_neg z] at k
    exact nm_e (cx_solve k)
theorem cy_ex {post : Int32 → SY → Prop} (ha : a < 6) (k : post (cq_bit (E a)) (ws, pl, 0, D, upd E a (vp_nar .boolean f), bW, bL)) :
    wpY_exit post (ws, pl, kn, D, E, bW, bL) (nI a) f := by
  have hv : vp_in (nI a) 6 := vp_in_nI (by omega) (by omega)
  have hc : (nI a).toNatClampNeg = a := nI_clamp (by omega)
  unfold wpY_exit
  dsimp only
  refine cy_bad ha (br_t rfl ⟨hv, ?_⟩)
  rw [hc]
  refine br_c (fun z => ?_) (fun z => ?_)
  · unfold wY_exit_24
    rw [hc]
    rw [show cq_bit (E a) = 0 from if_pos z] at k
    exact ⟨hv, nm_e k⟩
  · unfold wY_exit_24
    rw [hc]
    rw [show cq_bit (E a) = 1 from if_neg z] at k
    exact ⟨hv, nm_e k⟩
end
end
section
-- the relation, and what is owed
def cq_R (g w ws kn : Int32) (p : Nat) (D E aW aL bW bL : Nat → Int32) : Prop :=
  p < 432 ∧ (ws &&& 1 = 0 ↔ g = 0) ∧ (ws &&& 2 = 0 ↔ w = 0) ∧ cq_at (cq_TT D E g w 433) (fun q => q) aW aL ∧ (kn = 0 ∨ ¬ kn = 0 ∧ cq_at (cq_TT D E g w 433) cq_y bW bL)
def i_Rel (k : Nat) (u : SX) (v : SY) : Prop :=
  ∃ (g w ws kn : Int32) (p : Nat) (D E aW aL bW bL : Nat → Int32), u = (g, w, nI p, D, E, aW, aL) ∧ v = (ws, nI (cq_y p), kn, D, E, bW, bL) ∧ cq_R g w ws kn p D E aW aL bW bL
theorem cq_mk {k : Nat} {g w ws kn : Int32} {p : Nat} {D E aW aL bW bL : Nat → Int32} (h : cq_R g w ws kn p D E aW aL bW bL) :
    i_Rel k (g, w, nI p, D, E, aW, aL) (ws, nI (cq_y p), kn, D, E, bW, bL) := ⟨g, w, ws, kn, p, D, E, aW, aL, bW, bL, rfl, rfl, h⟩
theorem i_up {k : Nat} {u : SX} {v : SY} (h : i_Rel k u v) : i_Rel (k + 5) u v := h
theorem i_vc0 (k0 : Int32) : wpX_init (fun u => wpY_init (fun v => i_Rel 1 u v) k0) k0 := by
  have e1 : k0 &&& 3 &&& 1 = k0 &&& 1 := by rw [Int32.and_assoc]; rfl
  have e2 : k0 &&& 3 &&& 2 = k0 &&& 2 := by rw [Int32.and_assoc]; rfl
  have fin : ∀ g w : Int32, (k0 &&& 1 = 0 ↔ g = 0) → (k0 &&& 2 = 0 ↔ w = 0) → ∀ aW aL : Nat → Int32, cq_at (cq_TT (fun _ => 0) (fun _ => 0) g w 433) (fun q => q) aW aL →
      wpY_init (fun v => i_Rel 1 (g, w, nI (cq_n 0 1 5 0), (fun _ => 0), (fun _ => 0), aW, aL) v) k0 := by
    intro g w hg hw aW aL h
    unfold wpY_init
    refine nm_e (cy_nu (a := 0) (b := 1) (t := 5) (m := 0) (by omega) rfl (by omega) (by omega) (by omega) ?_)
    exact cq_mk ⟨by decide, by rw [e1]; exact hg, by rw [e2]; exact hw, h, Or.inl rfl⟩
  have s65 : ∀ (g w : Int32), (w = 0 ∨ w = 1) → (k0 &&& 1 = 0 ↔ g = 0) → (k0 &&& 2 = 0 ↔ w = 0) →
      wX_init_65 (fun u => wpY_init (fun v => i_Rel 1 u v) k0) w g 0 0 (fun _ => 0) (fun _ => 0) (fun _ => 0) (fun _ => 0) := by
    intro g w hz hg hw
    unfold wX_init_65
    refine ⟨?_, ?_, cx_nu (a := 0) (b := 1) (t := 5) (m := 0) (by omega) rfl (cx_solve (fun aW aL h => fin g w hg hw aW aL h))⟩
    · rcases hz with rfl | rfl <;> rfl
    · rcases hz with rfl | rfl <;> decide
  have s50 : ∀ g : Int32, (g = 0 ∨ g = 1) → (k0 &&& 1 = 0 ↔ g = 0) →
      wX_init_50 (fun u => wpY_init (fun v => i_Rel 1 u v) k0) k0 g 0 0 0 (fun _ => 0) (fun _ => 0) (fun _ => 0) (fun _ => 0) := by
    intro g hz hg
    unfold wX_init_50
    refine ⟨?_, ?_, br_c (fun z => s65 g 0 (Or.inl rfl) hg ⟨fun _ => rfl, fun _ => z⟩) (fun z => s65 g 1 (Or.inr rfl) hg ⟨fun y => absurd y z, fun y => absurd y (by decide)⟩)⟩
    · rcases hz with rfl | rfl <;> rfl
    · rcases hz with rfl | rfl <;> decide
  unfold wpX_init
  exact br_c (fun z => s50 0 (Or.inl rfl) ⟨fun _ => rfl, fun _ => z⟩) (fun z => s50 1 (Or.inr rfl) ⟨fun y => absurd y z, fun y => absurd y (by decide)⟩)
theorem i_vc_door {k : Nat} {u : SX} {v : SY} (I : i_Rel k u v) (hk : k + 5 ≤ 2561) (v1 : Int32) (v2 : Int32) (v3 : Int32) : wpX_door (fun r u' => wpY_door (fun r' v' => r' = r ∧ i_Rel (k + 5) u' v') v v1 v2 (lw_bz v3)) u v1 v2 (lw_bz v3) := by
  obtain ⟨g, w, ws, kn, p, D, E, aW, aL, bW, bL, rfl, rfl, hR⟩ := I
  rcases cq_1 v1 with h1 | ⟨a, ha, rfl⟩
  · unfold wpX_door
    dsimp only
    refine cx_ipn h1 (br_t rfl ?_)
    unfold wpY_door
    dsimp only
    exact cy_badn h1 (br_f (by decide) ⟨rfl, cq_mk hR⟩)
  · rcases cq_1 v2 with h2 | ⟨b, hb, rfl⟩
    · unfold wpX_door
      dsimp only
      refine cx_ip ha (br_f (by decide) (cx_ipn h2 (br_t rfl ?_)))
      unfold wpY_door
      dsimp only
      exact cy_bad ha (br_t rfl (cy_badn h2 (br_f (by decide) ⟨rfl, cq_mk hR⟩)))
    · by_cases e : a = b
      · unfold wpX_door
        dsimp only
        refine cx_ip ha (br_f (by decide) (cx_ip hb (br_f (by decide) (br_t (congrArg nI e) ?_))))
        unfold wpY_door
        dsimp only
        exact cy_bad ha (br_t rfl (cy_bad hb (br_t rfl (br_t (congrArg nI e) ⟨rfl, cq_mk hR⟩))))
      · exact cx_do ha hb e (fun cW cL hc => cy_do ha hb e ⟨rfl, cq_mk ⟨hR.1, hR.2.1, hR.2.2.1, hc, Or.inl rfl⟩⟩)
theorem i_vc_exit {k : Nat} {u : SX} {v : SY} (I : i_Rel k u v) (hk : k + 5 ≤ 2561) (v1 : Int32) (v2 : Int32) : wpX_exit (fun r u' => wpY_exit (fun r' v' => r' = r ∧ i_Rel (k + 5) u' v') v v1 (lw_bz v2)) u v1 (lw_bz v2) := by
  obtain ⟨g, w, ws, kn, p, D, E, aW, aL, bW, bL, rfl, rfl, hR⟩ := I
  rcases cq_1 v1 with h1 | ⟨a, ha, rfl⟩
  · unfold wpX_exit
    dsimp only
    refine cx_ipn h1 (br_t rfl ?_)
    unfold wpY_exit
    dsimp only
    exact cy_badn h1 (br_f (by decide) ⟨rfl, cq_mk hR⟩)
  · exact cx_ex ha (fun cW cL hc => cy_ex ha ⟨rfl, cq_mk ⟨hR.1, hR.2.1, hR.2.2.1, hc, Or.inl rfl⟩⟩)
theorem i_vc_set {k : Nat} {u : SX} {v : SY} (I : i_Rel k u v) (hk : k + 5 ≤ 2561) (v1 : Int32) (v2 : Int32) (v3 : Int32) (v4 : Int32) : wpX_set (fun r u' => wpY_set (fun r' v' => r' = r ∧ i_Rel (k + 5) u' v') v v1 v2 v3 (lw_bz v4)) u v1 v2 v3 (lw_bz v4) := by
  obtain ⟨g, w, ws, kn, p, D, E, aW, aL, bW, bL, rfl, rfl, hR⟩ := I
  obtain ⟨m, hm, em⟩ := cq_bz v4
  rcases cq_3 v1 v2 v3 with h | ⟨a, b, t, ha, hb, ht, rfl, rfl, rfl⟩
  · exact cx_setn h (cy_setn h ⟨rfl, cq_mk hR⟩)
  · exact cx_set ha hb ht hm em (cy_set ha hb ht hm em ⟨rfl, cq_mk ⟨cq_nlt ha hb ht hm, hR.2⟩⟩)
theorem i_vc_play {k : Nat} {u : SX} {v : SY} (I : i_Rel k u v) (hk : k + 5 ≤ 2561) (v1 : Int32) : wpX_play (fun r u' => wpY_play (fun r' v' => r' = r ∧ i_Rel (k + 5) u' v') v v1) u v1 := by
  obtain ⟨g, w, ws, kn, p, D, E, aW, aL, bW, bL, rfl, rfl, hR⟩ := I
  have hp := hR.1
  unfold wpX_play
  dsimp only
  refine cx_wo hp (br_c (fun z => ?_) (fun z => ?_))
  · have yn : ∀ r : Int32, r = -2 → (∀ k1 : Int32 → Prop, k1 (-1) → wpY_after k1 (ws, nI (cq_y p), kn, D, E, bW, bL) (nI (cq_y p)) v1) →
        wpY_play (fun r' v' => r' = r ∧ i_Rel (k + 5) (g, w, nI p, D, E, aW, aL) v') (ws, nI (cq_y p), kn, D, E, bW, bL) v1 := by
      intro r er ha
      unfold wpY_play
      dsimp only
      exact cy_ov hp (br_t z (ha _ (br_f (by decide) ⟨er.symm, cq_mk hR⟩)))
    rcases pk_ix v1 (n := 13) (by omega) with h | h | ⟨c, hc, rfl⟩
    · exact cx_afx hp (Or.inl h) (br_t rfl (yn _ rfl (fun k1 h1 => cy_afx hp (Or.inl h) h1)))
    · exact cx_afx hp (Or.inr h) (br_t rfl (yn _ rfl (fun k1 h1 => cy_afx hp (Or.inr h) h1)))
    · refine cx_af hp hc (fun hn => br_t rfl (yn _ rfl (fun k1 h1 => ?_))) (fun q hq => ?_)
      · exact cy_af hR.2.1 hR.2.2.1 hp hc (fun _ => h1) (fun q hq => absurd (hn.symm.trans hq) (by intro o; exact nomatch o))
      · have hl := cq_Al p c q hq
        have hy := cq_ylt q hl
        refine br_f (cq_m1 hl) ?_
        unfold wpY_play
        dsimp only
        refine cy_ov hp (br_t z (cy_af hR.2.1 hR.2.2.1 hp hc (fun hn => absurd (hn.symm.trans hq) (by intro o; exact nomatch o)) (fun q' hq' => ?_)))
        rw [hq] at hq'
        cases hq'
        exact br_t (nI_pos' (by omega)) ⟨rfl, cq_mk ⟨hl, hR.2⟩⟩
  · unfold wpY_play
    dsimp only
    exact cy_ov hp (br_f z ⟨rfl, cq_mk hR⟩)
theorem i_vc_board {k : Nat} {u : SX} {v : SY} (I : i_Rel k u v) (hk : k + 5 ≤ 2561) : wpX_board (fun r => wpY_board (fun r' => r' = r ∧ i_Rel (k + 5) u v) v) u := by
  obtain ⟨g, w, ws, kn, p, D, E, aW, aL, bW, bL, rfl, rfl, hR⟩ := I
  have hp := hR.1
  have Y : ∀ r : Int32, nI (cq_a p) + 8 * nI (cq_b p) + 64 * nI (cq_t p) + 512 * nI (p / 216) = r →
      wpY_board (fun r' => r' = r ∧ i_Rel (k + 5) (g, w, nI p, D, E, aW, aL) (ws, nI (cq_y p), kn, D, E, bW, bL)) (ws, nI (cq_y p), kn, D, E, bW, bL) := by
    intro r er
    unfold wpY_board
    dsimp only
    rw [cy_eA hp, cy_eB hp, cy_eT hp, cy_eM hp]
    exact ⟨by decide, by decide, by decide, by decide, by decide, by decide, er, cq_mk hR⟩
  unfold wpX_board
  dsimp only
  refine cx_pA hp (cx_pB hp (cx_pT hp (nm_e (cx_th hp (fun l => br_t rfl (Y _ ?_)) (fun l => br_f (by decide) (Y _ ?_))))))
  · rw [show p / 216 = 0 by omega, show (512 : Int32) * nI 0 = 0 from rfl, Int32.add_zero]
  · rw [show p / 216 = 1 by omega, show (512 : Int32) * nI 1 = 512 from rfl]
theorem i_vc_outcome {k : Nat} {u : SX} {v : SY} (I : i_Rel k u v) (hk : k + 5 ≤ 2561) (v1 : Int32) (v2 : Int32) (v3 : Int32) (v4 : Int32) : wpX_outcome (fun r => wpY_outcome (fun r' v' => r' = r ∧ i_Rel (k + 5) u v') v v1 v2 v3 (lw_bz v4)) u v1 v2 v3 (lw_bz v4) := by
  obtain ⟨g, w, ws, kn, p, D, E, aW, aL, bW, bL, rfl, rfl, hR⟩ := I
  obtain ⟨m, hm, em⟩ := cq_bz v4
  rcases cq_3 v1 v2 v3 with h | ⟨a, b, t, ha, hb, ht, rfl, rfl, rfl⟩
  · exact cx_oun h (cy_oun h ⟨rfl, cq_mk hR⟩)
  · exact cx_ou hR.2.2.2.1 ha hb ht hm em (cy_ou hR.2.1 hR.2.2.1 hR.2.2.2.2 ha hb ht hm em (fun kn' cW cL hk hc => ⟨rfl, cq_mk ⟨hR.1, hR.2.1, hR.2.2.1, hR.2.2.2.1, Or.inr ⟨hk, hc⟩⟩⟩))
theorem i_vc_length {k : Nat} {u : SX} {v : SY} (I : i_Rel k u v) (hk : k + 5 ≤ 2561) (v1 : Int32) (v2 : Int32) (v3 : Int32) (v4 : Int32) : wpX_length (fun r => wpY_length (fun r' v' => r' = r ∧ i_Rel (k + 5) u v') v v1 v2 v3 (lw_bz v4)) u v1 v2 v3 (lw_bz v4) := by
  obtain ⟨g, w, ws, kn, p, D, E, aW, aL, bW, bL, rfl, rfl, hR⟩ := I
  obtain ⟨m, hm, em⟩ := cq_bz v4
  rcases cq_3 v1 v2 v3 with h | ⟨a, b, t, ha, hb, ht, rfl, rfl, rfl⟩
  · exact cx_len h (cy_len h ⟨rfl, cq_mk hR⟩)
  · exact cx_le hR.2.2.2.1 ha hb ht hm em (cy_le hR.2.1 hR.2.2.1 hR.2.2.2.2 ha hb ht hm em (fun kn' cW cL hk hc => ⟨rfl, cq_mk ⟨hR.1, hR.2.1, hR.2.2.1, hR.2.2.2.1, Or.inr ⟨hk, hc⟩⟩⟩))
theorem i_vc_best {k : Nat} {u : SX} {v : SY} (I : i_Rel k u v) (hk : k + 5 ≤ 2561) : wpX_best (fun r => wpY_best (fun r' v' => r' = r ∧ i_Rel (k + 5) u v') v) u := by
  obtain ⟨g, w, ws, kn, p, D, E, aW, aL, bW, bL, rfl, rfl, hR⟩ := I
  exact cx_best hR.2.2.2.1 hR.1 (fun r hr => cy_best hR.2.1 hR.2.2.1 hR.2.2.2.2 hR.1 (fun r' kn' cW cL hr' hk => ⟨cq_Bu hr' hr, cq_mk ⟨hR.1, hR.2.1, hR.2.2.1, hR.2.2.2.1, hk⟩⟩))
theorem i_vc_total {k : Nat} {u : SX} {v : SY} (I : i_Rel k u v) (hk : k + 5 ≤ 2561) (v1 : Int32) : wpX_total (fun r => wpY_total (fun r' v' => r' = r ∧ i_Rel (k + 5) u v') v v1) u v1 := by
  obtain ⟨g, w, ws, kn, p, D, E, aW, aL, bW, bL, rfl, rfl, hR⟩ := I
  refine cx_total hR.2.2.2.1 ?_
  unfold wpY_total
  dsimp only
  exact cy_wo hR.2.1 hR.2.2.1 hR.2.2.2.2 (fun kn' cW cL hk hc => cy_totalL hc ⟨rfl, cq_mk ⟨hR.1, hR.2.1, hR.2.2.1, hR.2.2.2.1, Or.inr ⟨hk, hc⟩⟩⟩)
theorem i_vc_longest {k : Nat} {u : SX} {v : SY} (I : i_Rel k u v) (hk : k + 5 ≤ 2561) (v1 : Int32) : wpX_longest (fun r => wpY_longest (fun r' v' => r' = r ∧ i_Rel (k + 5) u v') v v1) u v1 := by
  obtain ⟨g, w, ws, kn, p, D, E, aW, aL, bW, bL, rfl, rfl, hR⟩ := I
  unfold wpX_longest
  dsimp only
  refine ⟨433, cx_loL hR.2.2.2.1 (fun r hr => ?_) 432 0 (-3) rfl (cq_gr0 _ _ _ _)⟩
  unfold wpY_longest
  dsimp only
  refine cy_wo hR.2.1 hR.2.2.1 hR.2.2.2.2 (fun kn' cW cL hk hc => ⟨433, cy_loL hc (fun r' hr' => ?_) 432 0 (-3) rfl (cq_gr0 _ _ _ _)⟩)
  exact ⟨cq_gru cq_ylt (fun _ h => h) hr' hr, cq_mk ⟨hR.1, hR.2.1, hR.2.2.1, hR.2.2.2.1, Or.inr ⟨hk, hc⟩⟩⟩
end
