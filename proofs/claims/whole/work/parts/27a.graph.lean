/-! ===== ways in a graph with labels: shortest, first by labels; values that settle; searches by layers ===== -/
abbrev gN : Type := Nat → Nat → Option Nat
/-- a way of n labels to where G holds -/
def pG (nx : gN) (K : Nat) (G : Nat → Prop) : Nat → Nat → Prop
  | 0, s => G s
  | n + 1, s => ∃ k s', k < K ∧ nx s k = some s' ∧ pG nx K G n s'
/-- n steps from s to t -/
def rG (nx : gN) (K : Nat) (s : Nat) : Nat → Nat → Prop
  | 0, t => s = t
  | n + 1, t => ∃ u k, rG nx K s n u ∧ k < K ∧ nx u k = some t
theorem rG_cons {nx : gN} {K s k u : Nat} (hk : k < K) (h : nx s k = some u) : ∀ n t, rG nx K u n t → rG nx K s (n + 1) t
  | 0, t, ht => ⟨s, k, rfl, hk, by rw [h, show u = t from ht]⟩
  | n + 1, t, ⟨v, j, h1, h2, h3⟩ => ⟨v, j, rG_cons hk h n v h1, h2, h3⟩
theorem rG_app {nx : gN} {K s u : Nat} {n : Nat} (h : rG nx K s n u) : ∀ m t, rG nx K u m t → rG nx K s (n + m) t
  | 0, t, ht => by rw [show u = t from ht] at h; exact h
  | m + 1, t, ⟨v, j, h1, h2, h3⟩ => ⟨v, j, rG_app h m v h1, h2, h3⟩
theorem pG_iff {nx : gN} {K : Nat} {G : Nat → Prop} : ∀ n s, pG nx K G n s ↔ ∃ t, rG nx K s n t ∧ G t
  | 0, s => ⟨fun h => ⟨s, rfl, h⟩, fun ⟨t, h1, h2⟩ => by rw [show s = t from h1]; exact h2⟩
  | n + 1, s => by
    constructor
    · rintro ⟨k, u, hk, h1, h2⟩
      obtain ⟨t, h3, h4⟩ := (pG_iff n u).mp h2
      exact ⟨t, rG_cons hk h1 n t h3, h4⟩
    · rintro ⟨t, h1, h2⟩
      have hd : ∀ n s t, rG nx K s (n + 1) t → ∃ k u, k < K ∧ nx s k = some u ∧ rG nx K u n t := by
        intro n
        induction n with
        | zero =>
          rintro s t ⟨v, j, e, h2, h3⟩
          have e : s = v := e
          subst e
          exact ⟨j, t, h2, h3, rfl⟩
        | succ n ih =>
          rintro s t ⟨v, j, h1, h2, h3⟩
          obtain ⟨k, u, h4, h5, h6⟩ := ih s v h1
          exact ⟨k, u, h4, h5, v, j, h6, h2, h3⟩
      obtain ⟨k, u, h3, h4, h5⟩ := hd n s t h1
      exact ⟨k, u, h3, h4, (pG_iff n u).mpr ⟨t, h5, h2⟩⟩
def isL (nx : gN) (K : Nat) (G : Nat → Prop) (n s : Nat) : Prop := pG nx K G n s ∧ ∀ m, m < n → ¬ pG nx K G m s
noncomputable def dG (nx : gN) (K : Nat) (G : Nat → Prop) (s : Nat) : Int := @dite Int (∃ n, isL nx K G n s) (Classical.propDecidable _) (fun h => ((Classical.choose h : Nat) : Int)) (fun _ => -1)
theorem dG_eq {nx : gN} {K : Nat} {G : Nat → Prop} {n s : Nat} (h : isL nx K G n s) : dG nx K G s = (n : Int) := by
  unfold dG
  have hex : ∃ n, isL nx K G n s := ⟨n, h⟩
  rw [dif_pos hex]
  have h2 := Classical.choose_spec hex
  generalize Classical.choose hex = m at h2
  rcases Nat.lt_trichotomy m n with c | c | c
  · exact absurd h2.1 (h.2 m c)
  · rw [c]
  · exact absurd h.1 (h2.2 n c)
theorem dG_no {nx : gN} {K : Nat} {G : Nat → Prop} {s : Nat} (h : ∀ n, ¬ pG nx K G n s) : dG nx K G s = -1 := by
  unfold dG
  rw [dif_neg (fun z => by obtain ⟨n, hn⟩ := z; exact h n hn.1)]
theorem dG_cases (nx : gN) (K : Nat) (G : Nat → Prop) (s : Nat) : (∃ n : Nat, isL nx K G n s ∧ dG nx K G s = (n : Int)) ∨ (dG nx K G s = -1 ∧ ∀ n, ¬ pG nx K G n s) := by
  by_cases c : ∃ n, isL nx K G n s
  · obtain ⟨n, hn⟩ := c
    exact Or.inl ⟨n, hn, dG_eq hn⟩
  · refine Or.inr ?_
    have : ∀ n, ¬ pG nx K G n s := by
      intro n
      induction n using Nat.strongRecOn with
      | ind n ih => intro hp; exact c ⟨n, hp, ih⟩
    exact ⟨dG_no this, this⟩
/-- the first label of the first of the shortest ways -/
noncomputable def lG (nx : gN) (K : Nat) (G : Nat → Prop) (s : Nat) : Nat := fstB (fun k => @decide (∃ s', nx s k = some s' ∧ 0 ≤ dG nx K G s' ∧ dG nx K G s' = dG nx K G s - 1) (Classical.propDecidable _)) K
theorem lG_eq {nx : gN} {K : Nat} {G : Nat → Prop} {s k s' : Nat} (hk : k < K) (h : nx s k = some s') (h0 : 0 ≤ dG nx K G s') (hd : dG nx K G s' = dG nx K G s - 1) (hm : ∀ k' t, k' < k → nx s k' = some t → 0 ≤ dG nx K G t → dG nx K G t ≠ dG nx K G s - 1) : lG nx K G s = k := by
  unfold lG
  obtain ⟨f1, f2, f3⟩ := fstB_all (fun k => @decide (∃ s', nx s k = some s' ∧ 0 ≤ dG nx K G s' ∧ dG nx K G s' = dG nx K G s - 1) (Classical.propDecidable _)) K
  generalize fstB (fun k => @decide (∃ s', nx s k = some s' ∧ 0 ≤ dG nx K G s' ∧ dG nx K G s' = dG nx K G s - 1) (Classical.propDecidable _)) K = x at f1 f2 f3
  rcases Nat.lt_trichotomy x k with c | c | c
  · obtain ⟨t, h1, h2, h3⟩ := @of_decide_eq_true _ (Classical.propDecidable _) (f2 (by omega))
    exact absurd h3 (hm x t c h1 h2)
  · exact c
  · exact absurd ⟨s', h, h0, hd⟩ (@of_decide_eq_false _ (Classical.propDecidable _) (f3 k c))
noncomputable def sG (nx : gN) (K : Nat) (G : Nat → Prop) (s : Nat) : Nat → Nat
  | 0 => s
  | i + 1 => (nx (sG nx K G s i) (lG nx K G (sG nx K G s i))).getD 0
theorem pgn : ∀ (N n : Nat) (f : Nat → Nat), (∀ i, i ≤ n → f i < N) → (∀ i j, i ≤ n → j ≤ n → f i = f j → i = j) → n < N
  | 0, n, f, h, _ => absurd (h 0 (Nat.zero_le _)) (Nat.not_lt_zero _)
  | N + 1, n, f, h, hi => by
    by_cases c : ∃ i, i ≤ n ∧ f i = N
    · obtain ⟨i0, h0, e0⟩ := c
      by_cases hn : n = 0
      · omega
      · have ih := pgn N (n - 1) (fun j => if j < i0 then f j else f (j + 1)) (fun i hi1 => ?_) (fun i j hi1 hj1 he => ?_)
        · omega
        · show (if i < i0 then f i else f (i + 1)) < N
          split
          · have h1 := h i (by omega)
            have h2 : f i ≠ N := fun e => by have := hi i i0 (by omega) h0 (by rw [e, e0]); omega
            omega
          · have h1 := h (i + 1) (by omega)
            have h2 : f (i + 1) ≠ N := fun e => by have := hi (i + 1) i0 (by omega) h0 (by rw [e, e0]); omega
            omega
        · have he : (if i < i0 then f i else f (i + 1)) = (if j < i0 then f j else f (j + 1)) := he
          split at he <;> split at he
          · exact hi i j (by omega) (by omega) he
          · have := hi i (j + 1) (by omega) (by omega) he; omega
          · have := hi (i + 1) j (by omega) (by omega) he; omega
          · have := hi (i + 1) (j + 1) (by omega) (by omega) he; omega
    · have := pgn N n f (fun i hi1 => by
        have h1 := h i hi1
        have h2 : f i ≠ N := fun e => c ⟨i, hi1, e⟩
        omega) hi
      omega
/-- values that have settled are the lengths of shortest ways -/
theorem val_ok {nx : gN} {K : Nat} {G : Nat → Prop} {Vd : Nat → Prop} {V : Nat → Int} {rk : Nat → Nat} {B : Nat} (hB : B ≤ 100000) (hc : ∀ s k s', Vd s → k < K → nx s k = some s' → Vd s') (h0 : ∀ s, Vd s → 0 ≤ V s ∧ V s ≤ 268435456) (hg : ∀ s, Vd s → G s → V s = 0) (h1 : ∀ s, Vd s → V s < 268435456 → pG nx K G (V s).toNat s) (h2 : ∀ s k s', Vd s → k < K → nx s k = some s' → V s ≤ V s' + 1) (hr : ∀ s, Vd s → rk s < B) (hri : ∀ n s t, Vd s → rG nx K s n t → rk s = rk t → s = t) (s : Nat) (hs : Vd s) : (V s < 268435456 → isL nx K G (V s).toNat s ∧ V s < (B : Int)) ∧ (¬ (V s < 268435456) → ∀ n, ¬ pG nx K G n s) := by
  have comp : ∀ n s, Vd s → pG nx K G n s → V s ≤ (n : Int) := by
    intro n
    induction n with
    | zero => intro s hs hp; rw [hg s hs hp]; omega
    | succ n ih =>
      rintro s hs ⟨k, s', hk, h3, h4⟩
      have := ih s' (hc s k s' hs hk h3) h4
      have := h2 s k s' hs hk h3
      omega
  have chain : ∀ (v s : Nat), Vd s → V s = (v : Int) → V s < 268435456 → ∃ f : Nat → Nat, f 0 = s ∧ (∀ i : Nat, i ≤ v → V (f i) = (v : Int) - (i : Int) ∧ Vd (f i)) ∧ (∀ i j : Nat, i ≤ j → j ≤ v → rG nx K (f i) (j - i) (f j)) := by
    intro v
    induction v with
    | zero =>
      intro s hs hv _
      refine ⟨fun _ => s, rfl, fun i hi => ⟨by rw [hv]; omega, hs⟩, fun i j _ hj => ?_⟩
      rw [show j - i = 0 by omega]
      rfl
    | succ v ih =>
      intro s hs hv hlt
      have hp := h1 s hs hlt
      rw [show (V s).toNat = v + 1 by omega] at hp
      obtain ⟨k, s', hk, h3, h4⟩ := hp
      have hs' := hc s k s' hs hk h3
      have e1 := comp v s' hs' h4
      have e2 := h2 s k s' hs hk h3
      obtain ⟨f, f0, f1, f2⟩ := ih s' hs' (by omega) (by omega)
      refine ⟨fun i => if i = 0 then s else f (i - 1), if_pos rfl, fun i hi => ?_, fun i j hij hj => ?_⟩
      · by_cases c : i = 0
        · show V (if i = 0 then s else f (i - 1)) = _ ∧ Vd (if i = 0 then s else f (i - 1))
          rw [if_pos c, hv]; exact ⟨by omega, hs⟩
        · show V (if i = 0 then s else f (i - 1)) = _ ∧ Vd (if i = 0 then s else f (i - 1))
          rw [if_neg c]
          have := f1 (i - 1) (by omega)
          exact ⟨by omega, this.2⟩
      · show rG nx K (if i = 0 then s else f (i - 1)) (j - i) (if j = 0 then s else f (j - 1))
        by_cases c : i = 0
        · rw [if_pos c]
          by_cases c2 : j = 0
          · rw [if_pos c2, show j - i = 0 by omega]; rfl
          · rw [if_neg c2, show j - i = (j - 1) + 1 by omega]
            refine rG_cons hk h3 (j - 1) _ ?_
            have := f2 0 (j - 1) (by omega) (by omega)
            rw [f0, Nat.sub_zero] at this
            exact this
        · rw [if_neg c, if_neg (by omega), show j - i = (j - 1) - (i - 1) by omega]
          exact f2 (i - 1) (j - 1) (by omega) (by omega)
  have bnd : ∀ s, Vd s → V s < 268435456 → V s < (B : Int) := by
    intro s hs hlt
    have hv0 := h0 s hs
    obtain ⟨f, f0, f1, f2⟩ := chain (V s).toNat s hs (by omega) hlt
    have := pgn B (V s).toNat (fun i => rk (f i)) (fun i hi => hr _ (f1 i hi).2) (fun i j hi hj he => ?_)
    · omega
    · rcases Nat.lt_trichotomy i j with c | c | c
      · have e := hri (j - i) (f i) (f j) (f1 i hi).2 (f2 i j (by omega) hj) he
        have e1 := (f1 i hi).1
        have e2 := (f1 j hj).1
        rw [e] at e1
        omega
      · exact c
      · have e := hri (i - j) (f j) (f i) (f1 j hj).2 (f2 j i (by omega) hi) he.symm
        have e1 := (f1 i hi).1
        have e2 := (f1 j hj).1
        rw [e] at e2
        omega
  have fin : ∀ n s, Vd s → pG nx K G n s → V s < 268435456 := by
    intro n
    induction n with
    | zero => intro s hs hp; rw [hg s hs hp]; omega
    | succ n ih =>
      rintro s hs ⟨k, s', hk, h3, h4⟩
      have hs' := hc s k s' hs hk h3
      have := bnd s' hs' (ih s' hs' h4)
      have := h2 s k s' hs hk h3
      omega
  refine ⟨fun hlt => ⟨⟨h1 s hs hlt, fun m hm hp => ?_⟩, bnd s hs hlt⟩, fun hn n hp => hn (fin n s hs hp)⟩
  have := comp m s hs hp
  have := h0 s hs
  omega
/-- a search by layers: the queue q, whence each came, by which label -/
def bfI (nx : gN) (K st : Nat) (q pa la : Nat → Nat) (t : Nat) : Prop := 0 < t ∧ q 0 = st ∧ (∀ i j, i < t → j < t → q i = q j → i = j) ∧ (∀ i, 0 < i → i < t → pa i < i ∧ la i < K ∧ nx (q (pa i)) (la i) = some (q i) ∧ ∀ j k v, (j < pa i ∨ (j = pa i ∧ k < la i)) → k < K → nx (q j) k = some v → ∃ i', i' < i ∧ q i' = v)
/-- b is m steps up from i -/
def upI (pa : Nat → Nat) : Nat → Nat → Nat → Prop
  | 0, i, b => i = b
  | m + 1, i, b => 0 < i ∧ upI pa m (pa i) b
theorem up_app {pa : Nat → Nat} {b : Nat} (hb : 0 < b) : ∀ m i, upI pa m i b → upI pa (m + 1) i (pa b)
  | 0, i, h => by
    have h : i = b := h
    subst h
    exact ⟨hb, rfl⟩
  | m + 1, i, ⟨h1, h2⟩ => ⟨h1, up_app hb m (pa i) h2⟩
theorem up_le {nx : gN} {K st t : Nat} {q pa la : Nat → Nat} (h : bfI nx K st q pa la t) : ∀ m i b, i < t → upI pa m i b → b ≤ i
  | 0, i, b, _, e => by have e : i = b := e; omega
  | m + 1, i, b, hi, ⟨h1, h2⟩ => by
    have h3 := (h.2.2.2 i h1 hi).1
    have := up_le h m (pa i) b (by omega) h2
    omega
theorem bf_B {nx : gN} {K st t : Nat} {q pa la : Nat → Nat} (h : bfI nx K st q pa la t) {a : Nat} : ∀ m i b x, rG nx K (q a) m x → upI pa m i b → a < b → i < t → ∃ i', i' < i ∧ q i' = x
  | 0, i, b, x, e, e2, hab, _ => by
    have e : q a = x := e
    have e2 : i = b := e2
    exact ⟨a, by omega, e⟩
  | m + 1, i, b, x, ⟨u, k, h1, h2, h3⟩, ⟨h4, h5⟩, hab, hi => by
    obtain ⟨p1, p2, p3, p4⟩ := h.2.2.2 i h4 hi
    obtain ⟨j, hj, ej⟩ := bf_B h m (pa i) b u h1 h5 hab (by omega)
    exact p4 j k x (Or.inl hj) h2 (by rw [ej]; exact h3)
theorem bf_A {nx : gN} {K st t : Nat} {q pa la : Nat → Nat} (h : bfI nx K st q pa la t) : ∀ m d i x, rG nx K st m x → upI pa d i 0 → m < d → i < t → ∃ i', i' < i ∧ q i' = x
  | 0, 0, _, _, _, _, hd, _ => absurd hd (Nat.lt_irrefl 0)
  | 0, d + 1, i, x, e, ⟨h4, h5⟩, hd, hi => ⟨0, h4, by rw [h.2.1]; exact e⟩
  | m + 1, 0, i, x, _, _, hd, hi => absurd hd (Nat.not_lt_zero _)
  | m + 1, d + 1, i, x, ⟨u, k, h1, h2, h3⟩, ⟨h4, h5⟩, hd, hi => by
    obtain ⟨p1, p2, p3, p4⟩ := h.2.2.2 i h4 hi
    obtain ⟨j, hj, ej⟩ := bf_A h m d (pa i) u h1 h5 (by omega) (by omega)
    exact p4 j k x (Or.inl hj) h2 (by rw [ej]; exact h3)
theorem bf_dep {nx : gN} {K st t : Nat} {q pa la : Nat → Nat} (h : bfI nx K st q pa la t) : ∀ i, i < t → ∃ d, d ≤ i ∧ upI pa d i 0 := by
  intro i
  induction i using Nat.strongRecOn with
  | ind i ih =>
    intro hi
    by_cases c : i = 0
    · exact ⟨0, by omega, c⟩
    · obtain ⟨p1, _⟩ := h.2.2.2 i (by omega) hi
      obtain ⟨d, h1, h2⟩ := ih (pa i) p1 (by omega)
      exact ⟨d + 1, by omega, by omega, h2⟩
theorem bf_path {nx : gN} {K st t : Nat} {q pa la : Nat → Nat} (h : bfI nx K st q pa la t) : ∀ m i b, i < t → upI pa m i b → rG nx K (q b) m (q i)
  | 0, i, b, _, e => by have e : i = b := e; rw [e]; rfl
  | m + 1, i, b, hi, ⟨h1, h2⟩ => by
    obtain ⟨p1, p2, p3, _⟩ := h.2.2.2 i h1 hi
    exact ⟨q (pa i), la i, bf_path h m (pa i) b (by omega) h2, p2, p3⟩
theorem up_split {pa : Nat → Nat} : ∀ m k i b c, upI pa m i b → upI pa k b c → upI pa (m + k) i c
  | 0, k, i, b, c, e, h => by
    have e : i = b := e
    subst e
    rw [Nat.zero_add]
    exact h
  | m + 1, k, i, b, c, ⟨h1, h2⟩, h => by
    rw [show m + 1 + k = (m + k) + 1 by omega]
    exact ⟨h1, up_split m k (pa i) b c h2 h⟩
theorem up_uniq {nx : gN} {K st t : Nat} {q pa la : Nat → Nat} (h : bfI nx K st q pa la t) : ∀ m n i, i < t → upI pa m i 0 → upI pa n i 0 → m = n
  | 0, 0, _, _, _, _ => rfl
  | 0, n + 1, i, _, e, ⟨h1, _⟩ => by have e : i = 0 := e; omega
  | m + 1, 0, i, _, ⟨h1, _⟩, e => by have e : i = 0 := e; omega
  | m + 1, n + 1, i, hi, ⟨h1, h2⟩, ⟨_, h4⟩ => by
    have p1 := (h.2.2.2 i h1 hi).1
    rw [up_uniq h m n (pa i) (by omega) h2 h4]
/-- the first goal of the queue: shortest, and its labels are the first -/
theorem bf_goal {nx : gN} {K st t : Nat} {G : Nat → Prop} {q pa la : Nat → Nat} (h : bfI nx K st q pa la t) {gi d : Nat} (hg : gi < t) (hG : G (q gi)) (hf : ∀ i, i < gi → ¬ G (q i)) (hd : upI pa d gi 0) : isL nx K G d st ∧ ∀ e i c, upI pa e gi i → upI pa c i 0 → sG nx K G st c = q i ∧ (0 < i → lG nx K G (q (pa i)) = la i) := by
  have hL : isL nx K G d st := by
    refine ⟨(pG_iff d st).mpr ⟨q gi, ?_, hG⟩, fun m hm hp => ?_⟩
    · have := bf_path h d gi 0 hg hd
      rw [h.2.1] at this
      exact this
    · obtain ⟨x, h1, h2⟩ := (pG_iff m st).mp hp
      obtain ⟨i', h3, h4⟩ := bf_A h m d gi x h1 hd hm hg
      exact hf i' h3 (by rw [h4]; exact h2)
  have node : ∀ e i c, upI pa e gi i → upI pa c i 0 → isL nx K G e (q i) := by
    intro e i c h1 h2
    have ec : e + c = d := up_uniq h _ _ gi hg (up_split e c gi i 0 h1 h2) hd
    have hi := up_le h e gi i hg h1
    refine ⟨(pG_iff e _).mpr ⟨q gi, bf_path h e gi i hg h1, hG⟩, fun m hm hp => ?_⟩
    obtain ⟨x, h3, h4⟩ := (pG_iff m _).mp hp
    have h5 := bf_path h c i 0 (by omega) h2
    rw [h.2.1] at h5
    have h6 := rG_app h5 m x h3
    exact hL.2 (c + m) (by omega) ((pG_iff _ _).mpr ⟨x, h6, h4⟩)
  have lab : ∀ e i c, upI pa e gi i → upI pa c i 0 → 0 < i → lG nx K G (q (pa i)) = la i := by
    intro e i c h1 h2 hi0
    have hi := up_le h e gi i hg h1
    obtain ⟨p1, p2, p3, p4⟩ := h.2.2.2 i hi0 (by omega)
    have n1 := dG_eq (node e i c h1 h2)
    have h1' := up_app hi0 e gi h1
    have h2' : ∃ c', upI pa c' (pa i) 0 := by
      cases c with
      | zero => have h2 : i = 0 := h2; omega
      | succ c => exact ⟨c, h2.2⟩
    obtain ⟨c', h2'⟩ := h2'
    have n2 := dG_eq (node (e + 1) (pa i) c' h1' h2')
    refine lG_eq p2 p3 (by rw [n1]; omega) (by rw [n1, n2]; omega) (fun k' s' hk' hs' h0 hd' => ?_)
    obtain ⟨a, ha, ea⟩ := p4 (pa i) k' s' (Or.inr ⟨rfl, hk'⟩) (by omega) hs'
    rcases dG_cases nx K G s' with ⟨n, hn, en⟩ | ⟨en, _⟩
    · have e1 : n = e := by rw [n2] at hd'; omega
      subst e1
      obtain ⟨x, h3, h4⟩ := (pG_iff n s').mp hn.1
      rw [← ea] at h3
      obtain ⟨i', h5, h6⟩ := bf_B h n gi i x h3 h1 ha hg
      exact hf i' h5 (by rw [h6]; exact h4)
    · omega
  refine ⟨hL, fun e i c h1 h2 => ⟨?_, lab e i c h1 h2⟩⟩
  clear hd hL
  revert e i
  induction c with
  | zero =>
    intro e i h1 h2
    have h2 : i = 0 := h2
    rw [h2, h.2.1]
    rfl
  | succ c ih =>
    intro e i h1 h2
    have hi := up_le h e gi i hg h1
    obtain ⟨p1, p2, p3, p4⟩ := h.2.2.2 i h2.1 (by omega)
    have e1 := ih (e + 1) (pa i) (up_app h2.1 e gi h1) h2.2
    show (nx (sG nx K G st c) (lG nx K G (sG nx K G st c))).getD 0 = q i
    rw [e1, lab e i (c + 1) h1 h2 h2.1, p3]
    rfl
/-- no goal is reached -/
theorem bf_none {nx : gN} {K st t : Nat} {G : Nat → Prop} {q pa la : Nat → Nat} (h : bfI nx K st q pa la t) (hc : ∀ i k v, i < t → k < K → nx (q i) k = some v → ∃ j, j < t ∧ q j = v) (hG : ∀ i, i < t → ¬ G (q i)) : ∀ n, ¬ pG nx K G n st := by
  have all : ∀ n x, rG nx K st n x → ∃ j, j < t ∧ q j = x := by
    intro n
    induction n with
    | zero => intro x e; exact ⟨0, h.1, by rw [h.2.1]; exact e⟩
    | succ n ih =>
      rintro x ⟨u, k, h1, h2, h3⟩
      obtain ⟨j, hj, ej⟩ := ih u h1
      exact hc j k x hj h2 (by rw [ej]; exact h3)
  intro n hp
  obtain ⟨x, h1, h2⟩ := (pG_iff n st).mp hp
  obtain ⟨j, hj, ej⟩ := all n x h1
  exact hG j hj (by rw [ej]; exact h2)
/-- one graph seen as another one -/
def simG (nx nx' : gN) (K : Nat) (G G' : Nat → Prop) (Vd : Nat → Prop) (en : Nat → Nat) : Prop := (∀ s k, Vd s → k < K → nx' (en s) k = (nx s k).map en) ∧ (∀ s k s', Vd s → k < K → nx s k = some s' → Vd s') ∧ (∀ s, Vd s → (G' (en s) ↔ G s))
theorem sim_p {nx nx' : gN} {K : Nat} {G G' Vd : Nat → Prop} {en : Nat → Nat} (h : simG nx nx' K G G' Vd en) : ∀ n s, Vd s → (pG nx' K G' n (en s) ↔ pG nx K G n s)
  | 0, s, hs => h.2.2 s hs
  | n + 1, s, hs => by
    constructor
    · rintro ⟨k, t, hk, h1, h2⟩
      rw [h.1 s k hs hk] at h1
      cases e : nx s k with
      | none => rw [e] at h1; cases h1
      | some u =>
        rw [e] at h1
        have h1 : some (en u) = some t := h1
        have h1 := Option.some.inj h1
        subst h1
        exact ⟨k, u, hk, e, (sim_p h n u (h.2.1 s k u hs hk e)).mp h2⟩
    · rintro ⟨k, u, hk, h1, h2⟩
      exact ⟨k, en u, hk, by rw [h.1 s k hs hk, h1]; rfl, (sim_p h n u (h.2.1 s k u hs hk h1)).mpr h2⟩
theorem sim_d {nx nx' : gN} {K : Nat} {G G' Vd : Nat → Prop} {en : Nat → Nat} (h : simG nx nx' K G G' Vd en) {s : Nat} (hs : Vd s) : dG nx' K G' (en s) = dG nx K G s := by
  rcases dG_cases nx K G s with ⟨n, hn, e⟩ | ⟨e, hn⟩
  · rw [e]
    exact dG_eq ⟨(sim_p h n s hs).mpr hn.1, fun m hm hp => hn.2 m hm ((sim_p h m s hs).mp hp)⟩
  · rw [e]
    exact dG_no (fun n hp => hn n ((sim_p h n s hs).mp hp))
theorem sim_l {nx nx' : gN} {K : Nat} {G G' Vd : Nat → Prop} {en : Nat → Nat} (h : simG nx nx' K G G' Vd en) {s : Nat} (hs : Vd s) : lG nx' K G' (en s) = lG nx K G s := by
  unfold lG
  have e : ∀ k, k < K → @decide (∃ s', nx' (en s) k = some s' ∧ 0 ≤ dG nx' K G' s' ∧ dG nx' K G' s' = dG nx' K G' (en s) - 1) (Classical.propDecidable _) = @decide (∃ s', nx s k = some s' ∧ 0 ≤ dG nx K G s' ∧ dG nx K G s' = dG nx K G s - 1) (Classical.propDecidable _) := by
    intro k hk
    have hiff : (∃ s', nx' (en s) k = some s' ∧ 0 ≤ dG nx' K G' s' ∧ dG nx' K G' s' = dG nx' K G' (en s) - 1) ↔ (∃ s', nx s k = some s' ∧ 0 ≤ dG nx K G s' ∧ dG nx K G s' = dG nx K G s - 1) := by
      rw [sim_d h hs, h.1 s k hs hk]
      cases e1 : nx s k with
      | none => exact ⟨fun ⟨_, z, _⟩ => (by cases z), fun ⟨_, z, _⟩ => (by cases z)⟩
      | some u =>
        have hu := h.2.1 s k u hs hk e1
        constructor
        · rintro ⟨t, z, y⟩
          have z : some (en u) = some t := z
          have z := Option.some.inj z
          subst z
          rw [sim_d h hu] at y
          exact ⟨u, rfl, y⟩
        · rintro ⟨t, z, y⟩
          have z := Option.some.inj z
          subst z
          exact ⟨en u, rfl, by rw [sim_d h hu]; exact y⟩
    by_cases c : ∃ s', nx s k = some s' ∧ 0 ≤ dG nx K G s' ∧ dG nx K G s' = dG nx K G s - 1
    · rw [@decide_eq_true _ (Classical.propDecidable _) c, @decide_eq_true _ (Classical.propDecidable _) (hiff.mpr c)]
    · rw [@decide_eq_false _ (Classical.propDecidable _) c, @decide_eq_false _ (Classical.propDecidable _) (fun z => c (hiff.mp z))]
  have ext : ∀ (f g : Nat → Bool) n, (∀ k, k < n → f k = g k) → fstB f n = fstB g n := by
    intro f g n
    induction n with
    | zero => intro _; rfl
    | succ n ih =>
      intro hh
      show (if fstB f n < n then fstB f n else if f n then n else n + 1) = (if fstB g n < n then fstB g n else if g n then n else n + 1)
      rw [ih (fun k hk => hh k (by omega)), hh n (by omega)]
  exact ext _ _ K e
/-- along the first of the shortest ways -/
theorem way_step {nx : gN} {K : Nat} {G : Nat → Prop} {s n : Nat} (h : dG nx K G s = ((n + 1 : Nat) : Int)) : lG nx K G s < K ∧ ∃ s', nx s (lG nx K G s) = some s' ∧ dG nx K G s' = (n : Int) := by
  rcases dG_cases nx K G s with ⟨m, hm, e⟩ | ⟨e, _⟩
  · have em : m = n + 1 := by omega
    subst em
    obtain ⟨k, u, hk, h1, h2⟩ := hm.1
    have hu : isL nx K G n u := ⟨h2, fun j hj hp => hm.2 (j + 1) (by omega) ⟨k, u, hk, h1, hp⟩⟩
    have hd := dG_eq hu
    obtain ⟨f1, f2, f3⟩ := fstB_all (fun k => @decide (∃ s', nx s k = some s' ∧ 0 ≤ dG nx K G s' ∧ dG nx K G s' = dG nx K G s - 1) (Classical.propDecidable _)) K
    have hlt : lG nx K G s < K := by
      unfold lG
      apply Decidable.byContradiction
      intro c
      have := f3 k (by omega)
      exact absurd ⟨u, h1, by omega, by omega⟩ (@of_decide_eq_false _ (Classical.propDecidable _) this)
    obtain ⟨t, t1, t2, t3⟩ := @of_decide_eq_true _ (Classical.propDecidable _) (f2 hlt)
    exact ⟨hlt, t, t1, by omega⟩
  · omega
theorem way_all {nx : gN} {K : Nat} {G : Nat → Prop} {s n : Nat} (h : dG nx K G s = (n : Int)) : ∀ i, i ≤ n → dG nx K G (sG nx K G s i) = (n : Int) - (i : Int)
  | 0, _ => by show dG nx K G s = _; rw [h]; omega
  | i + 1, hi => by
    have ih := way_all h i (by omega)
    obtain ⟨h1, s', h2, h3⟩ := way_step (n := n - i - 1) (s := sG nx K G s i) (by rw [ih]; omega)
    show dG nx K G ((nx (sG nx K G s i) (lG nx K G (sG nx K G s i))).getD 0) = _
    rw [h2]
    show dG nx K G s' = _
    rw [h3]
    omega
theorem sim_s {nx nx' : gN} {K : Nat} {G G' Vd : Nat → Prop} {en : Nat → Nat} (h : simG nx nx' K G G' Vd en) {s n : Nat} (hs : Vd s) (hd : dG nx K G s = (n : Int)) : ∀ i, i ≤ n → sG nx' K G' (en s) i = en (sG nx K G s i) ∧ Vd (sG nx K G s i)
  | 0, _ => ⟨rfl, hs⟩
  | i + 1, hi => by
    obtain ⟨e1, v1⟩ := sim_s h hs hd i (by omega)
    have hw := way_all hd i (by omega)
    obtain ⟨h1, s', h2, h3⟩ := way_step (n := n - i - 1) (s := sG nx K G s i) (by rw [hw]; omega)
    have e2 : sG nx K G s (i + 1) = s' := by
      show (nx (sG nx K G s i) (lG nx K G (sG nx K G s i))).getD 0 = _
      rw [h2]; rfl
    rw [e2]
    refine ⟨?_, h.2.1 _ _ _ v1 h1 h2⟩
    show (nx' (sG nx' K G' (en s) i) (lG nx' K G' (sG nx' K G' (en s) i))).getD 0 = _
    rw [e1, sim_l h v1, h.1 _ _ v1 h1, h2]
    rfl
