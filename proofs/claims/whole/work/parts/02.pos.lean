-- numbers of positions, moves, the table of those over
theorem cq_al (p : Nat) : cq_a p < 6 := Nat.mod_lt _ (by decide)
theorem cq_bl (p : Nat) : cq_b p < 6 := Nat.mod_lt _ (by decide)
theorem cq_tl (p : Nat) : cq_t p < 6 := Nat.mod_lt _ (by decide)
theorem cq_nlt {a b t m : Nat} (ha : a < 6) (hb : b < 6) (ht : t < 6) (hm : m < 2) : cq_n a b t m < 432 := by unfold cq_n; omega
theorem cq_np : ∀ p, p < 432 → cq_n (cq_a p) (cq_b p) (cq_t p) (p / 216) = p := by decide +kernel
theorem cq_na {a b t m : Nat} (ha : a < 6) : cq_a (cq_n a b t m) = a := by unfold cq_a cq_n; omega
theorem cq_nb {a b t m : Nat} (ha : a < 6) (hb : b < 6) : cq_b (cq_n a b t m) = b := by unfold cq_b cq_n; omega
theorem cq_nt {a b t m : Nat} (ha : a < 6) (hb : b < 6) (ht : t < 6) : cq_t (cq_n a b t m) = t := by unfold cq_t cq_n; omega
theorem cq_nm {a b t m : Nat} (ha : a < 6) (hb : b < 6) (ht : t < 6) : cq_n a b t m / 216 = m := by unfold cq_n; omega
theorem cq_yn {a b t m : Nat} (ha : a < 6) (hb : b < 6) (ht : t < 6) : cq_y (cq_n a b t m) = ((a * 6 + b) * 6 + t) * 2 + m := by
  unfold cq_y
  rw [cq_na ha, cq_nb ha hb, cq_nt ha hb ht, cq_nm ha hb ht]
theorem cq_yinj {p q : Nat} (hp : p < 432) (hq : q < 432) (h : cq_y p = cq_y q) : p = q := by
  rw [← cq_xy p hp, ← cq_xy q hq, h]

-- the position after a move
def cq_A (D : Nat → Int32) (g w : Int32) (p c : Nat) : Option Nat :=
  if 216 ≤ p then
    if c = 12 then (if w = 0 then none else some (cq_n (cq_a p) (cq_b p) (cq_t p) 0))
    else if c < 6 then (if D (cq_t p * 6 + c) = 0 then none else some (cq_n (cq_a p) (cq_b p) c 0))
    else none
  else
    if c = 12 then (if g = 0 then none else some (cq_n (cq_a p) (cq_b p) (cq_t p) 1))
    else if c < 6 then (if D (cq_a p * 6 + c) = 0 then none else some (cq_n c (cq_b p) (cq_t p) 1))
    else if c < 12 then (if D (cq_b p * 6 + (c - 6)) = 0 then none else some (cq_n (cq_a p) (c - 6) (cq_t p) 1))
    else none

theorem cq_Al {D : Nat → Int32} {g w : Int32} (p c q : Nat) (h : cq_A D g w p c = some q) : q < 432 := by
  have ha := cq_al p
  have hb := cq_bl p
  have ht := cq_tl p
  unfold cq_A at h
  split at h
  · split at h
    · split at h
      · exact nomatch h
      · cases h; exact cq_nlt ha hb ht (by omega)
    · split at h
      · split at h
        · exact nomatch h
        · cases h; exact cq_nlt ha hb (by omega) (by omega)
      · exact nomatch h
  · split at h
    · split at h
      · exact nomatch h
      · cases h; exact cq_nlt ha hb ht (by omega)
    · split at h
      · split at h
        · exact nomatch h
        · cases h; exact cq_nlt (by omega) hb ht (by omega)
      · split at h
        · split at h
          · exact nomatch h
          · cases h; exact cq_nlt ha (by omega) ht (by omega)
        · exact nomatch h
theorem cq_AlN {D : Nat → Int32} {g w : Int32} : ∀ p c q, p < 432 → cq_A D g w p c = some q → q < 432 := fun p c q _ h => cq_Al p c q h

-- those over
def cq_W0 (E : Nat → Int32) (p : Nat) : Int32 := if cq_t p = cq_a p ∨ cq_t p = cq_b p then 1 else if E (cq_t p) = 0 then 0 else 2
def cq_L0 (E : Nat → Int32) (p : Nat) : Int32 := if cq_W0 E p = 0 then -3 else 0
theorem cq_W03 (E : Nat → Int32) (p : Nat) : cq_W0 E p = 0 ∨ cq_W0 E p = 1 ∨ cq_W0 E p = 2 := by
  unfold cq_W0
  split
  · exact Or.inr (Or.inl rfl)
  · split
    · exact Or.inl rfl
    · exact Or.inr (Or.inr rfl)
theorem cq_ok0 (E : Nat → Int32) : cq_Ok (cq_W0 E) (cq_L0 E) 0 := by
  intro p _
  refine ⟨cq_W03 E p, fun h => if_pos h, fun h => ⟨0, Or.inr rfl, ?_⟩⟩
  rw [nI_0]; exact if_neg h
theorem cq_w00 (E : Nat → Int32) : cq_W0 E 0 ≠ 0 := by
  have h : cq_W0 E 0 = 1 := if_pos (Or.inl rfl)
  rw [h]; decide

-- the scan over the codes
def cq_S (A : Nat → Nat → Option Nat) (W L : Nat → Int32) (p : Nat) (r : Int32) (c : Nat) (o : Prop) : Prop :=
  (∀ k q, k < c → A p k = some q → ¬ cq_G W L r (cq_mv p) q) ∧
  (o → ∃ k q, k < c ∧ A p k = some q ∧ ¬ cq_G W L r (cq_ot p) q) ∧
  (¬ o → ∀ k q, k < c → A p k = some q → cq_G W L r (cq_ot p) q)
section
variable {A : Nat → Nat → Option Nat} {W L : Nat → Int32} {p : Nat} {r : Int32} {c : Nat} {o o' : Prop}
theorem cq_S0 (h : ¬ o) : cq_S A W L p r 0 o :=
  ⟨fun _ _ h => absurd h (Nat.not_lt_zero _), fun z => absurd z h, fun _ _ _ h => absurd h (Nat.not_lt_zero _)⟩
theorem cq_Sn (hA : A p c = none) (s : cq_S A W L p r c o) : cq_S A W L p r (c + 1) o := by
  refine ⟨fun k q hk hq => ?_, fun z => ?_, fun z k q hk hq => ?_⟩
  · by_cases e : k = c
    · rw [e, hA] at hq; exact nomatch hq
    · exact s.1 k q (by omega) hq
  · obtain ⟨k, q, hk, h⟩ := s.2.1 z
    exact ⟨k, q, by omega, h⟩
  · by_cases e : k = c
    · rw [e, hA] at hq; exact nomatch hq
    · exact s.2.2 z k q (by omega) hq
theorem cq_So {q : Nat} (hA : A p c = some q) (hm : ¬ cq_G W L r (cq_mv p) q) (ho : ¬ cq_G W L r (cq_ot p) q) (s : cq_S A W L p r c o) (z' : o') : cq_S A W L p r (c + 1) o' := by
  refine ⟨fun k q' hk hq => ?_, fun z => ⟨c, q, by omega, hA, ho⟩, fun z => absurd z' z⟩
  by_cases e : k = c
  · rw [e, hA] at hq; cases hq; exact hm
  · exact s.1 k q' (by omega) hq
theorem cq_Sk {q : Nat} (hA : A p c = some q) (ho : cq_G W L r (cq_ot p) q) (s : cq_S A W L p r c o) : cq_S A W L p r (c + 1) o := by
  refine ⟨fun k q' hk hq => ?_, fun z => ?_, fun z k q' hk hq => ?_⟩
  · by_cases e : k = c
    · rw [e, hA] at hq; cases hq; exact fun hm => cq_Gx hm ho
    · exact s.1 k q' (by omega) hq
  · obtain ⟨k, q', hk, h⟩ := s.2.1 z
    exact ⟨k, q', by omega, h⟩
  · by_cases e : k = c
    · rw [e, hA] at hq; cases hq; exact ho
    · exact s.2.2 z k q' (by omega) hq
theorem cq_Sm {q : Nat} (hc : c < 13) (hA : A p c = some q) (hm : cq_G W L r (cq_mv p) q) : cq_FO A W L p r (cq_mv p) := Or.inl ⟨rfl, c, q, hc, hA, hm⟩
theorem cq_S13 (s : cq_S A W L p r 13 o) (z : o) : cq_FO A W L p r 0 := Or.inr (Or.inr ⟨rfl, s.1, s.2.1 z⟩)
theorem cq_S13n (s : cq_S A W L p r 13 o) (z : ¬ o) : cq_FO A W L p r (cq_ot p) := Or.inr (Or.inl ⟨rfl, s.2.2 z⟩)
end

-- a sweep in place, entries in the order of e
def cq_sd (A : Nat → Nat → Option Nat) (W L : Nat → Int32) (r : Nat) (e : Nat → Nat) (aW aL : Nat → Int32) (i : Nat) : Prop :=
  ∀ q, q < 432 → (e q < i → aW (e q) = cq_sW A W L r q ∧ aL (e q) = cq_sL A W L r q) ∧ (i ≤ e q → aW (e q) = W q ∧ aL (e q) = L q)
def cq_nf (A : Nat → Nat → Option Nat) (W L : Nat → Int32) (r : Nat) (e : Nat → Nat) (i : Nat) : Prop :=
  ∀ q, q < 432 → e q < i → W q = 0 → cq_fo A W L q (nI r) = 0
section
variable {A : Nat → Nat → Option Nat} {W L aW aL aW' aL' : Nat → Int32} {r i p : Nat} {e : Nat → Nat}
theorem cq_sdS (s : cq_sd A W L r e aW aL i) (hp : e p = i) (inj : ∀ q, q < 432 → e q = i → q = p)
    (h1 : aW' i = cq_sW A W L r p) (h2 : aL' i = cq_sL A W L r p) (h3 : ∀ j, j ≠ i → aW' j = aW j ∧ aL' j = aL j) : cq_sd A W L r e aW' aL' (i + 1) := by
  intro q hq
  by_cases h : e q = i
  · have hqp := inj q hq h
    refine ⟨fun _ => ?_, fun hl => absurd hl (by omega)⟩
    rw [h, hqp]
    exact ⟨h1, h2⟩
  · have h4 := h3 (e q) h
    rw [h4.1, h4.2]
    exact ⟨fun hl => (s q hq).1 (by omega), fun hl => (s q hq).2 (by omega)⟩
theorem cq_sdF (hA : ∀ c q, A p c = some q → q < 432) (s : cq_sd A W L r e aW aL i) {v : Int32} (h : cq_FO A (fun q => aW (e q)) (fun q => aL (e q)) p (nI r) v) : v = cq_fo A W L p (nI r) := by
  refine cq_FOun (cq_FOcg hA ?_ h) (cq_foS A W L p (nI r))
  refine cq_mix (A := A) fun q hq => ?_
  by_cases hl : e q < i
  · exact Or.inr ((s q hq).1 hl)
  · exact Or.inl ((s q hq).2 (by omega))
theorem cq_nfS (s : cq_nf A W L r e i) (inj : ∀ q, q < 432 → e q = i → q = p) (h : W p = 0 → cq_fo A W L p (nI r) = 0) : cq_nf A W L r e (i + 1) := by
  intro q hq hl z
  by_cases h' : e q = i
  · have hqp := inj q hq h'
    subst hqp
    exact h z
  · exact s q hq (by omega) z
end

-- counting, the greatest, the best
theorem cq_perm : ((List.range 432).map cq_x).Perm (List.range 432) := by decide +kernel
def cq_ct (P : Nat → Bool) : Nat → Nat
  | 0 => 0
  | n + 1 => cq_ct P n + (if P n = true then 1 else 0)
theorem cq_ctl (P : Nat → Bool) : ∀ n, cq_ct P n = (List.range n).countP P
  | 0 => rfl
  | n + 1 => by
    rw [List.range_succ, List.countP_append, List.countP_singleton, ← cq_ctl P n]
    rfl
theorem cq_ctn (P : Nat → Bool) : ∀ n, cq_ct P n ≤ n
  | 0 => Nat.le_refl 0
  | n + 1 => by
    have h := cq_ctn P n
    unfold cq_ct
    split <;> omega
theorem cq_ctx (P : Nat → Bool) : cq_ct (fun q => P (cq_x q)) 432 = cq_ct P 432 := by
  rw [cq_ctl, cq_ctl, ← List.Perm.countP_eq P cq_perm, List.countP_map]
  rfl
theorem cq_ctc {P Q : Nat → Bool} : ∀ n, (∀ p, p < n → P p = Q p) → cq_ct P n = cq_ct Q n
  | 0, _ => rfl
  | n + 1, h => by
    unfold cq_ct
    rw [cq_ctc n (fun p hp => h p (by omega)), h n (by omega)]

def cq_gr (W L : Nat → Int32) (e : Nat → Nat) (who : Int32) (i : Nat) (g : Int32) : Prop :=
  (∀ p, p < 432 → e p < i → W p = who → L p ≤ g) ∧ (g = -3 ∨ ∃ p, p < 432 ∧ W p = who ∧ L p = g ∧ -3 < g)
theorem cq_gru {W L : Nat → Int32} {e e' : Nat → Nat} {who g g' : Int32} (he : ∀ p, p < 432 → e p < 432) (he' : ∀ p, p < 432 → e' p < 432)
    (h : cq_gr W L e who 432 g) (h' : cq_gr W L e' who 432 g') : g = g' := by
  rcases h with ⟨a, b | ⟨p, hp, hw, hl, hg⟩⟩
  · rcases h' with ⟨a', b' | ⟨p', hp', hw', hl', hg'⟩⟩
    · rw [b, b']
    · have := a p' hp' (he p' hp') hw'
      rw [hl', b] at this
      exact absurd hg' (Int32.not_lt.mpr this)
  · rcases h' with ⟨a', b' | ⟨p', hp', hw', hl', hg'⟩⟩
    · have := a' p hp (he' p hp) hw
      rw [hl, b'] at this
      exact absurd hg (Int32.not_lt.mpr this)
    · have k := a p' hp' (he p' hp') hw'
      have k' := a' p hp (he' p hp) hw
      rw [hl'] at k
      rw [hl] at k'
      exact Int32.le_antisymm k' k

def cq_be (Q : Nat → Prop) (v : Int32) : Prop :=
  (∃ c, c < 13 ∧ v = nI c ∧ Q c ∧ ∀ k, k < c → ¬ Q k) ∨ (v = -2 ∧ ∀ k, k < 13 → ¬ Q k)
theorem cq_beu {Q : Nat → Prop} {v v' : Int32} (h : cq_be Q v) (h' : cq_be Q v') : v = v' := by
  rcases h with ⟨c, hc, e, q, l⟩ | ⟨e, l⟩
  · rcases h' with ⟨c', hc', e', q', l'⟩ | ⟨e', l'⟩
    · have : c = c' := by
        rcases Nat.lt_trichotomy c c' with h | h | h
        · exact absurd q (l' c h)
        · exact h
        · exact absurd q' (l c' h)
      rw [e, e', this]
    · exact absurd q (l' c hc)
  · rcases h' with ⟨c', hc', e', q', l'⟩ | ⟨e', l'⟩
    · exact absurd q' (l c' hc')
    · rw [e, e']
