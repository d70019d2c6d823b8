/-! ===== deeds: what they make of the row of numbers ===== -/
def pset (P : Nat → Int) (k : Nat) (x : Int) : Nat → Int := fun j => if j = k then x else P j
theorem pset_eq (P : Nat → Int) (k : Nat) (x : Int) : pset P k x k = x := if_pos rfl
theorem pset_ne {P : Nat → Int} {k j : Nat} {x : Int} (h : j ≠ k) : pset P k x j = P j := if_neg h
theorem sI_p (M : Nat → Nat → Int) (a k : Nat) (x : Int) : sI M a k x a = pset (M a) k x := by
  funext j
  exact sI_if M a k x j
theorem if_cg {p q : Prop} [Decidable p] [Decidable q] {a b a' b' : Int} (h : p ↔ q) (ha : a = a') (hb : b = b') : (if p then a else b) = if q then a' else b' := by
  subst ha hb
  by_cases c : p
  · rw [if_pos c, if_pos (h.mp c)]
  · rw [if_neg c, if_neg (fun z => c (h.mpr z))]
theorem wA (c : Int) (k m : Nat) (h : c + (k : Int) = (m : Int)) (hm : m < 2147483648) : w32 (c + (k : Int)) = (m : Int) := by
  rw [w32_eq]; omega
/-- the rows agree in all that laws stand on -/
def AgS (P P' : Nat → Int) : Prop := ∀ j, (j < 65 ∨ j = 67 ∨ (84 ≤ j ∧ j < 92) ∨ 363 ≤ j) → P' j = P j
/-- nothing but what deeds change is another -/
def stO (P P' : Nat → Int) : Prop := ∀ j, (j < 65 ∨ 92 ≤ j) → P' j = P j
theorem stO.refl (P : Nat → Int) : stO P P := fun _ _ => rfl
theorem stO.trans {P P' R : Nat → Int} (h : stO P P') (h2 : stO P' R) : stO P R := fun j hj => (h2 j hj).trans (h j hj)
theorem AgS.cd {P P' : Nat → Int} (h : AgS P P') {l : Nat} (hl : l < 3) : cdP P' l = cdP P l := by
  funext k
  unfold cdP
  rw [h (7 + l) (by omega), h _ (by omega)]
theorem AgS.mn {P P' : Nat → Int} (h : AgS P P') {l : Nat} (hl : l < 3) : mnP P' l = mnP P l := by
  unfold mnP
  rw [h (10 + l) (by omega)]
theorem AgS.may {P P' : Nat → Int} (h : AgS P P') {f b : Nat} (hf : f < 8) (hb : b < 12) : mayT P' f b = mayT P f b := by
  have e : wsT P' f b = wsT P f b := by
    funext x
    unfold wsT
    rw [h (84 + f) (by omega), h (13 + b) (by omega), h (25 + b) (by omega)]
  unfold mayT
  rw [h.cd (by omega), h.mn (by omega), e, h 4 (by omega)]
theorem AgS.hr {P P' : Nat → Int} (h : AgS P P') {f g : Nat} (hf : f < 8) : hrs P' f g = hrs P f g := by
  have e : wsH P' f g = wsH P f g := by
    funext x
    unfold wsH
    rw [h (84 + f) (by omega)]
  unfold hrs
  rw [h.cd (by omega), h.mn (by omega), e, h 67 (by omega), h 5 (by omega)]
theorem okP.of {P P' : Nat → Int} (ok : okP P) (h : ∀ j, j < 65 ∨ 363 ≤ j → P' j = P j) (hs : okS P (fun j => P' (65 + j))) : okP P' := by
  refine ⟨?_, ?_, ?_, ?_, ?_, ⟨?_, ?_, ?_⟩, ?_⟩
  · rw [h 1 (by omega)]; exact ok.F
  · rw [h 2 (by omega)]; exact ok.Mo
  · rw [h 3 (by omega)]; exact ok.B
  · intro b hb
    rw [h 3 (by omega)] at hb
    have := ok.B
    rw [h 2 (by omega), h (13 + b) (by omega), h (25 + b) (by omega), h (37 + b) (by omega)]
    exact ok.bit hb
  · intro f hf
    rw [h 2 (by omega), h (49 + f) (by omega), h (57 + f) (by omega)]
    exact ok.farm hf
  · rw [h 363 (by omega)]; exact ok.nc.1
  · rw [h 363 (by omega)]; exact ok.nc.2
  · intro l hl
    have hc : cdP P' l = cdP P l := by
      funext k
      unfold cdP
      rw [h (7 + l) (by omega), h _ (by omega)]
    have hm : mnP P' l = mnP P l := by
      unfold mnP
      rw [h (10 + l) (by omega)]
    have := ok.law hl
    unfold okL at this ⊢
    rw [hc, hm, h (4 + l) (by omega), h (7 + l) (by omega), h (10 + l) (by omega), h 363 (by omega)]
    exact this
  · unfold okS at hs ⊢
    rw [h 1 (by omega), h 2 (by omega)]
    exact hs
theorem okP.st' {P P' : Nat → Int} (ok : okP P) (h : stO P P') (h65 : 0 ≤ P' 65 ∧ P' 65 < P 1) (h67 : 0 ≤ P' 67 ∧ P' 67 < 256) (h68 : ∀ f, f < 8 → 0 ≤ P' (68 + f) ∧ P' (68 + f) < P 2) (h84 : ∀ f, f < 8 → 0 ≤ P' (84 + f) ∧ P' (84 + f) ≤ 9) : okP P' := by
  refine ok.of (fun j hj => h j (by omega)) ⟨h65, h67, fun f hf => ⟨?_, ?_⟩⟩
  · have := h68 f hf
    rw [show 68 + f = 65 + (3 + f) by omega] at this
    exact this
  · have := h84 f hf
    rw [show 84 + f = 65 + (19 + f) by omega] at this
    exact this
/-- how many of the first n hold -/
def cntB (p : Nat → Bool) : Nat → Nat
  | 0 => 0
  | n + 1 => cntB p n + (if p n then 1 else 0)
theorem cntB_le (p : Nat → Bool) : ∀ n, cntB p n ≤ n
  | 0 => Nat.le_refl 0
  | n + 1 => by
    have := cntB_le p n
    show cntB p n + (if p n then 1 else 0) ≤ n + 1
    split <;> omega
theorem popc_msk1 (p : Nat → Bool) (n : Nat) : ∀ k, k ≤ n → popc k (msk p n) = cntB p k
  | 0, _ => rfl
  | k + 1, h => by
    show popc k (msk p n) + msk p n / 2 ^ k % 2 = cntB p k + (if p k then 1 else 0)
    rw [popc_msk1 p n k (by omega), msk_bit p n k (by omega)]
theorem popc_msk (p : Nat → Bool) {n : Nat} (hn : n ≤ 12) : popc 12 (msk p n) = cntB p n := by
  have key : ∀ j, n + j ≤ 12 → popc (n + j) (msk p n) = cntB p n := by
    intro j
    induction j with
    | zero => intro _; exact popc_msk1 p n n (Nat.le_refl _)
    | succ j ih =>
      intro h
      show popc (n + j) (msk p n) + msk p n / 2 ^ (n + j) % 2 = cntB p n
      have h1 : msk p n < 2 ^ (n + j) := Nat.lt_of_lt_of_le (msk_lt p n) (Nat.pow_le_pow_right (by omega) (by omega))
      rw [ih (by omega), Nat.div_eq_of_lt h1]
      rfl
  have := key (12 - n) (by omega)
  rw [show n + (12 - n) = 12 by omega] at this
  exact this
/-- the first below n that holds; n -/
def fstB (p : Nat → Bool) : Nat → Nat
  | 0 => 0
  | n + 1 => if fstB p n < n then fstB p n else if p n then n else n + 1
theorem fstB_all (p : Nat → Bool) : ∀ n, fstB p n ≤ n ∧ (fstB p n < n → p (fstB p n) = true) ∧ (∀ j, j < fstB p n → p j = false)
  | 0 => ⟨Nat.le_refl 0, fun h => absurd h (by show ¬ (0 < 0); omega), fun j hj => absurd hj (Nat.not_lt_zero j)⟩
  | n + 1 => by
    obtain ⟨h1, h2, h3⟩ := fstB_all p n
    have es : fstB p (n + 1) = if fstB p n < n then fstB p n else if p n then n else n + 1 := rfl
    rw [es]
    by_cases c : fstB p n < n
    · rw [if_pos c]
      exact ⟨by omega, fun _ => h2 c, h3⟩
    · rw [if_neg c]
      have e : fstB p n = n := by omega
      rw [e] at h3
      cases c2 : p n with
      | true =>
        rw [if_pos rfl]
        exact ⟨by omega, fun _ => c2, h3⟩
      | false =>
        rw [if_neg (by decide)]
        refine ⟨by omega, fun h => absurd h (by omega), fun j hj => ?_⟩
        by_cases e2 : j = n
        · rw [e2]; exact c2
        · exact h3 j (by omega)
theorem msk_zero (p : Nat → Bool) : ∀ n, msk p n = 0 ↔ ∀ k, k < n → p k = false
  | 0 => ⟨fun _ k hk => absurd hk (Nat.not_lt_zero k), fun _ => rfl⟩
  | n + 1 => by
    have ih := msk_zero p n
    have h2 := Nat.two_pow_pos n
    show msk p n + (if p n then 2 ^ n else 0) = 0 ↔ _
    constructor
    · intro h k hk
      cases c : p n with
      | true => rw [c] at h; rw [if_pos rfl] at h; omega
      | false =>
        by_cases e : k = n
        · rw [e]; exact c
        · rw [c, if_neg (by decide)] at h
          exact ih.mp (by omega) k (by omega)
    · intro h
      rw [h n (by omega), ih.mpr (fun k hk => h k (by omega))]
      rfl
theorem msk_fst (p : Nat → Bool) (n : Nat) : msk p n = 0 ↔ fstB p n = n := by
  obtain ⟨h1, h2, h3⟩ := fstB_all p n
  rw [msk_zero]
  constructor
  · intro h
    by_cases c : fstB p n < n
    · have := h2 c
      rw [h _ c] at this
      cases this
    · omega
  · intro h
    rw [h] at h3
    exact h3
/-- a bit is told, as far as the farms below k hear it -/
noncomputable def tellK (P : Nat → Int) (f b k : Nat) : Nat → Int := fun j => if 68 ≤ j ∧ j < 68 + k ∧ hrs P (j - 68) f = true then P (25 + b) else if 76 ≤ j ∧ j < 76 + k ∧ hrs P (j - 76) f = true ∧ P (j - 8) ≠ P (13 + b) then w32 (P j + 1) else P j
noncomputable def tellP (P : Nat → Int) (f b : Nat) : Nat → Int := pset (pset (tellK P f b (nF P)) (68 + f) (P (25 + b))) 66 (w32 (P 66 + 1))
theorem tellK_0 (P : Nat → Int) (f b : Nat) : tellK P f b 0 = P := by
  funext j
  unfold tellK
  rw [if_neg (by omega), if_neg (by omega)]
theorem tellK_o {P : Nat → Int} {f b k j : Nat} (hk : k ≤ 8) (h : j < 68 ∨ 84 ≤ j) : tellK P f b k j = P j := by
  unfold tellK
  rw [if_neg (by omega), if_neg (by omega)]
theorem tellK_no {P : Nat → Int} {f b k : Nat} (h : hrs P k f = false) : tellK P f b (k + 1) = tellK P f b k := by
  funext j
  have h1 : (68 ≤ j ∧ j < 68 + (k + 1) ∧ hrs P (j - 68) f = true) ↔ (68 ≤ j ∧ j < 68 + k ∧ hrs P (j - 68) f = true) := by
    constructor
    · rintro ⟨a, b, c⟩
      refine ⟨a, ?_, c⟩
      by_cases e : j = 68 + k
      · rw [show j - 68 = k by omega, h] at c; cases c
      · omega
    · rintro ⟨a, b, c⟩
      exact ⟨a, by omega, c⟩
  have h2 : (76 ≤ j ∧ j < 76 + (k + 1) ∧ hrs P (j - 76) f = true ∧ P (j - 8) ≠ P (13 + b)) ↔ (76 ≤ j ∧ j < 76 + k ∧ hrs P (j - 76) f = true ∧ P (j - 8) ≠ P (13 + b)) := by
    constructor
    · rintro ⟨a, b, c, e3⟩
      refine ⟨a, ?_, c, e3⟩
      by_cases e : j = 76 + k
      · rw [show j - 76 = k by omega, h] at c; cases c
      · omega
    · rintro ⟨a, b, c, e3⟩
      exact ⟨a, by omega, c, e3⟩
  unfold tellK
  exact if_cg h1 rfl (if_cg h2 rfl rfl)
theorem tellK_at {P : Nat → Int} {f b k : Nat} (hk : k < 8) : tellK P f b k (68 + k) = P (68 + k) := by
  unfold tellK
  rw [if_neg (by omega), if_neg (by omega)]
theorem tellK_db {P : Nat → Int} {f b k : Nat} (hk : k < 8) : tellK P f b k (76 + k) = P (76 + k) := by
  unfold tellK
  rw [if_neg (by omega), if_neg (by omega)]
theorem tellK_yes {P : Nat → Int} {f b k : Nat} (hk : k < 8) (h : hrs P k f = true) (h2 : P (68 + k) = P (13 + b)) : pset (tellK P f b k) (68 + k) (P (25 + b)) = tellK P f b (k + 1) := by
  funext j
  by_cases c : j = 68 + k
  · subst c
    rw [pset_eq]
    unfold tellK
    rw [if_pos ⟨by omega, by omega, by rw [show 68 + k - 68 = k by omega]; exact h⟩]
  · rw [pset_ne c]
    unfold tellK
    rw [if_cg (show (68 ≤ j ∧ j < 68 + k ∧ hrs P (j - 68) f = true) ↔ (68 ≤ j ∧ j < 68 + (k + 1) ∧ hrs P (j - 68) f = true) from ⟨fun ⟨x, y, z⟩ => ⟨x, by omega, z⟩, fun ⟨x, y, z⟩ => ⟨x, by omega, z⟩⟩) rfl rfl]
    refine if_cg Iff.rfl rfl (if_cg ⟨fun ⟨x, y, z⟩ => ⟨x, by omega, z⟩, fun ⟨x, y, z⟩ => ⟨x, ?_, z⟩⟩ rfl rfl)
    by_cases e : j = 76 + k
    · exfalso
      rw [show j - 8 = 68 + k by omega] at z
      exact z.2 h2
    · omega
theorem tellK_dbt {P : Nat → Int} {f b k : Nat} (hk : k < 8) (h : hrs P k f = true) (h2 : P (68 + k) ≠ P (13 + b)) : pset (pset (tellK P f b k) (76 + k) (w32 (P (76 + k) + 1))) (68 + k) (P (25 + b)) = tellK P f b (k + 1) := by
  funext j
  by_cases c : j = 68 + k
  · subst c
    rw [pset_eq]
    unfold tellK
    rw [if_pos ⟨by omega, by omega, by rw [show 68 + k - 68 = k by omega]; exact h⟩]
  · rw [pset_ne c]
    by_cases c2 : j = 76 + k
    · subst c2
      rw [pset_eq]
      unfold tellK
      rw [if_neg (by omega), if_pos ⟨by omega, by omega, by rw [show 76 + k - 76 = k by omega]; exact h, by rw [show 76 + k - 8 = 68 + k by omega]; exact h2⟩]
    · rw [pset_ne c2]
      unfold tellK
      exact if_cg ⟨fun ⟨x, y, z⟩ => ⟨x, by omega, z⟩, fun ⟨x, y, z⟩ => ⟨x, by omega, z⟩⟩ rfl (if_cg ⟨fun ⟨x, y, z⟩ => ⟨x, by omega, z⟩, fun ⟨x, y, z⟩ => ⟨x, by omega, z⟩⟩ rfl rfl)
theorem tellK_ag {P : Nat → Int} {f b k : Nat} (hk : k ≤ 8) : AgS P (tellK P f b k) := fun j hj => tellK_o hk (by omega)
theorem tellK_cell {P : Nat → Int} (ok : okP P) {f b k g : Nat} (hb : (b : Int) < P 3) (hg : g < 8) (hk : k ≤ 8) : 0 ≤ tellK P f b k (68 + g) ∧ tellK P f b k (68 + g) < P 2 := by
  have h1 := ok.at hg
  have h2 := ok.bit hb
  unfold tellK
  by_cases c : 68 ≤ 68 + g ∧ 68 + g < 68 + k ∧ hrs P (68 + g - 68) f = true
  · rw [if_pos c]; exact h2.2.1
  · rw [if_neg c, if_neg (by omega)]; exact h1
theorem tellK_ok {P : Nat → Int} (ok : okP P) {f b k : Nat} (hb : (b : Int) < P 3) (hk : k ≤ 8) : okP (tellK P f b k) := by
  refine ok.st' (fun j hj => tellK_o hk (by omega)) ?_ ?_ (fun g hg => tellK_cell ok hb hg hk) (fun g hg => ?_)
  · rw [tellK_o hk (by omega)]; exact ok.turn
  · rw [tellK_o hk (by omega)]; exact ok.cut
  · rw [tellK_o hk (by omega)]; exact ok.mood hg
theorem tellP_stO {P : Nat → Int} (ok : okP P) {f b : Nat} (hf : f < 8) : stO P (tellP P f b) := by
  intro j hj
  obtain ⟨_, _, h⟩ := ok.nFe
  unfold tellP
  rw [pset_ne (by omega), pset_ne (by omega), tellK_o h (by omega)]
theorem tellP_ok {P : Nat → Int} (ok : okP P) {f b : Nat} (hf : f < 8) (hb : (b : Int) < P 3) : okP (tellP P f b) := by
  obtain ⟨_, _, h⟩ := ok.nFe
  refine ok.st' (tellP_stO ok hf) ?_ ?_ (fun g hg => ?_) (fun g hg => ?_)
  · unfold tellP; rw [pset_ne (by omega), pset_ne (by omega), tellK_o h (by omega)]; exact ok.turn
  · unfold tellP; rw [pset_ne (by omega), pset_ne (by omega), tellK_o h (by omega)]; exact ok.cut
  · unfold tellP
    rw [pset_ne (by omega)]
    by_cases c : g = f
    · rw [c, pset_eq]; exact (ok.bit hb).2.1
    · rw [pset_ne (by omega)]; exact tellK_cell ok hb hg h
  · unfold tellP; rw [pset_ne (by omega), pset_ne (by omega), tellK_o h (by omega)]; exact ok.mood hg
/-- a turn -/
def nxt (P : Nat → Int) : Int := if P 65 + 1 < P 1 then P 65 + 1 else 0
def tb (P : Nat → Int) : Nat := fstB (canT P (P 65).toNat) (nB P)
noncomputable def turnP (P : Nat → Int) : Nat → Int := if tb P < nB P then tellP (pset P 65 (nxt P)) (P 65).toNat (tb P) else pset P 65 (nxt P)
theorem nxt_b {P : Nat → Int} (ok : okP P) : 0 ≤ nxt P ∧ nxt P < P 1 := by
  have h1 := ok.turn
  have h2 := ok.F
  unfold nxt
  split <;> omega
theorem set65 {P : Nat → Int} (ok : okP P) {x : Int} (h : 0 ≤ x ∧ x < P 1) : okP (pset P 65 x) := by
  refine ok.st' (fun j hj => pset_ne (by omega)) ?_ ?_ (fun g hg => ?_) (fun g hg => ?_)
  · rw [pset_eq]; exact h
  · rw [pset_ne (by omega)]; exact ok.cut
  · rw [pset_ne (by omega)]; exact ok.at hg
  · rw [pset_ne (by omega)]; exact ok.mood hg
theorem set67 {P : Nat → Int} (ok : okP P) {x : Int} (h : 0 ≤ x ∧ x < 256) : okP (pset P 67 x) := by
  refine ok.st' (fun j hj => pset_ne (by omega)) ?_ ?_ (fun g hg => ?_) (fun g hg => ?_)
  · rw [pset_ne (by omega)]; exact ok.turn
  · rw [pset_eq]; exact h
  · rw [pset_ne (by omega)]; exact ok.at hg
  · rw [pset_ne (by omega)]; exact ok.mood hg
theorem set84 {P : Nat → Int} (ok : okP P) {f : Nat} {x : Int} (hf : f < 8) (h : 0 ≤ x ∧ x ≤ 9) : okP (pset P (84 + f) x) := by
  refine ok.st' (fun j hj => pset_ne (by omega)) ?_ ?_ (fun g hg => ?_) (fun g hg => ?_)
  · rw [pset_ne (by omega)]; exact ok.turn
  · rw [pset_ne (by omega)]; exact ok.cut
  · rw [pset_ne (by omega)]; exact ok.at hg
  · by_cases c : g = f
    · rw [c, pset_eq]; exact h
    · rw [pset_ne (by omega)]; exact ok.mood hg
theorem turnP_stO {P : Nat → Int} (ok : okP P) : stO P (turnP P) := by
  have h1 := ok.turn
  have h2 := ok.F
  have h3 : stO P (pset P 65 (nxt P)) := fun j hj => pset_ne (by omega)
  unfold turnP
  split
  · exact h3.trans (tellP_stO (set65 ok (nxt_b ok)) (by omega))
  · exact h3
theorem turnP_ok {P : Nat → Int} (ok : okP P) : okP (turnP P) := by
  have h1 := ok.turn
  have h2 := ok.F
  have h3 := ok.nBe
  have h4 := set65 ok (nxt_b ok)
  unfold turnP
  split
  · exact tellP_ok h4 (by omega) (by rw [pset_ne (by omega)]; omega)
  · exact h4
/-- why a farm can't tell a bit; why a deed can't be; a deed -/
def whyT (P : Nat → Int) (v u : Int) : Int := if 0 ≤ v ∧ v < P 1 ∧ 0 ≤ u ∧ u < P 3 then (if P (68 + v.toNat) = P (13 + u.toNat) then (if mayT P v.toNat u.toNat = true then 0 else 3) else 2) else 1
def whyN (P : Nat → Int) (v : Int) : Int := if v = -1 then 0 else if 0 ≤ v ∧ v < 900 then whyT P (v / 100) (v % 100) else if 1000 ≤ v ∧ v < 1010 then (if v - 1000 < P 1 - 1 then 0 else 1) else if 2000 ≤ v ∧ v < 2100 ∧ (v - 2000) / 10 < P 1 then 0 else 1
noncomputable def doesP (P : Nat → Int) (v : Int) : Nat → Int := if v = -1 then turnP P else if v < 1000 then tellP P (v / 100).toNat (v % 100).toNat else if v < 2000 then pset P 67 (m_xor (P 67) (m_shl 1 (v - 1000))) else pset P (84 + ((v - 2000) / 10).toNat) (v % 10)
theorem whyT_0 {P : Nat → Int} {v u : Int} (h : whyT P v u = 0) : 0 ≤ v ∧ v < P 1 ∧ 0 ≤ u ∧ u < P 3 ∧ P (68 + v.toNat) = P (13 + u.toNat) := by
  unfold whyT at h
  by_cases c : 0 ≤ v ∧ v < P 1 ∧ 0 ≤ u ∧ u < P 3
  · rw [if_pos c] at h
    by_cases c2 : P (68 + v.toNat) = P (13 + u.toNat)
    · exact ⟨c.1, c.2.1, c.2.2.1, c.2.2.2, c2⟩
    · rw [if_neg c2] at h; omega
  · rw [if_neg c] at h; omega
theorem whyN_0 {P : Nat → Int} {v : Int} (h : whyN P v = 0) : v = -1 ∨ (0 ≤ v ∧ v < 900 ∧ whyT P (v / 100) (v % 100) = 0) ∨ (1000 ≤ v ∧ v < 1010 ∧ v - 1000 < P 1 - 1) ∨ (2000 ≤ v ∧ v < 2100 ∧ (v - 2000) / 10 < P 1) := by
  unfold whyN at h
  split at h
  · rename_i c; exact Or.inl c
  split at h
  · rename_i _ c; exact Or.inr (Or.inl ⟨c.1, c.2, h⟩)
  split at h
  · rename_i _ _ c
    split at h
    · rename_i c2; exact Or.inr (Or.inr (Or.inl ⟨c.1, c.2, c2⟩))
    · omega
  split at h
  · rename_i _ _ _ c; exact Or.inr (Or.inr (Or.inr c))
  · omega
theorem xor_b {c k : Nat} (hc : c < 256) (hk : k < 8) : m_xor (c : Int) (m_shl 1 (k : Int)) = ((c ^^^ 2 ^ k : Nat) : Int) ∧ c ^^^ 2 ^ k < 256 := by
  have h1 := p2_8 k hk
  rw [m_one (by omega), m_xor_n (by omega) (by omega)]
  exact ⟨rfl, Nat.xor_lt_two_pow (n := 8) hc (by omega)⟩
theorem doesP_ok {P : Nat → Int} (ok : okP P) {v : Int} (h : whyN P v = 0) : okP (doesP P v) ∧ stO P (doesP P v) := by
  have hF := ok.F
  have hB := ok.B
  rcases whyN_0 h with h1 | ⟨h1, h2, h3⟩ | ⟨h1, h2, h3⟩ | ⟨h1, h2, h3⟩
  · unfold doesP; rw [if_pos h1]; exact ⟨turnP_ok ok, turnP_stO ok⟩
  · obtain ⟨a1, a2, a3, a4, _⟩ := whyT_0 h3
    unfold doesP
    rw [if_neg (by omega), if_pos (by omega)]
    exact ⟨tellP_ok ok (by omega) (by omega), tellP_stO ok (by omega)⟩
  · unfold doesP
    rw [if_neg (by omega), if_neg (by omega), if_pos (by omega)]
    have hc := ok.cut
    obtain ⟨e1, e2⟩ := xor_b (c := (P 67).toNat) (k := (v - 1000).toNat) (by omega) (by omega)
    rw [Int.toNat_of_nonneg (by omega), Int.toNat_of_nonneg (by omega)] at e1
    rw [e1]
    exact ⟨set67 ok (by omega), fun j hj => pset_ne (by omega)⟩
  · unfold doesP
    rw [if_neg (by omega), if_neg (by omega), if_neg (by omega)]
    exact ⟨set84 ok (by omega) (by omega), fun j hj => pset_ne (by omega)⟩
/-- the row behind k deeds of a tray; where they end -/
noncomputable def dK (P num : Nat → Int) : Nat → Nat → Int
  | 0 => P
  | k + 1 => doesP (dK P num k) (num k)
noncomputable def dStop (P num : Nat → Int) (n : Nat) : Nat := fstB (fun k => decide (whyN (dK P num k) (num k) ≠ 0)) n
theorem dK_ok {P num : Nat → Int} (ok : okP P) : ∀ k, (∀ j, j < k → whyN (dK P num j) (num j) = 0) → okP (dK P num k) ∧ stO P (dK P num k)
  | 0, _ => ⟨ok, stO.refl P⟩
  | k + 1, h => by
    obtain ⟨h1, h2⟩ := dK_ok ok k (fun j hj => h j (by omega))
    obtain ⟨h3, h4⟩ := doesP_ok h1 (h k (by omega))
    exact ⟨h3, h2.trans h4⟩
theorem dStop_all (P num : Nat → Int) (n : Nat) : dStop P num n ≤ n ∧ (dStop P num n < n → whyN (dK P num (dStop P num n)) (num (dStop P num n)) ≠ 0) ∧ (∀ j, j < dStop P num n → whyN (dK P num j) (num j) = 0) := by
  obtain ⟨h1, h2, h3⟩ := fstB_all (fun k => decide (whyN (dK P num k) (num k) ≠ 0)) n
  refine ⟨h1, fun h => of_decide_eq_true (h2 h), fun j hj => ?_⟩
  have := of_decide_eq_false (h3 j hj)
  exact Decidable.not_not.mp this
/-- draws -/
noncomputable def drwX (x : Int) : Int := w32 (w32 (1103515245 * x) + 12345)
noncomputable def drwV (x b : Int) : Int := m_rem (m_ushr (drwX x) 16) b
noncomputable def dwD (x : Int) : Int × Int := if 2 ≤ drwV x 5 then (if drwV x 5 ≠ 2 then (if drwV x 5 ≠ 3 then (w32 (w32 (2000 + w32 (10 * drwV (drwX x) 8)) + drwV (drwX (drwX x)) 10), drwX (drwX (drwX x))) else (w32 (1000 + drwV (drwX x) 8), drwX (drwX x))) else (w32 (w32 (100 * drwV (drwX x) 8) + drwV (drwX (drwX x)) 12), drwX (drwX (drwX x)))) else (-1, drwX x)
/-- a winter: row, draw, how many could be -/
noncomputable def winK (P : Nat → Int) (x : Int) : Nat → (Nat → Int) × Int × Nat
  | 0 => (P, x, 0)
  | k + 1 => if whyN (winK P x k).1 (dwD (winK P x k).2.1).1 = 0 then (doesP (winK P x k).1 (dwD (winK P x k).2.1).1, (dwD (winK P x k).2.1).2, (winK P x k).2.2 + 1) else ((winK P x k).1, (dwD (winK P x k).2.1).2, (winK P x k).2.2)
theorem winK_ok {P : Nat → Int} (ok : okP P) (x : Int) : ∀ k, okP (winK P x k).1 ∧ stO P (winK P x k).1 ∧ (winK P x k).2.2 ≤ k
  | 0 => ⟨ok, stO.refl P, Nat.le_refl 0⟩
  | k + 1 => by
    obtain ⟨h1, h2, h3⟩ := winK_ok ok x k
    unfold winK
    split
    · rename_i c
      obtain ⟨h4, h5⟩ := doesP_ok h1 c
      exact ⟨h4, h2.trans h5, by show (winK P x k).2.2 + 1 ≤ k + 1; omega⟩
    · exact ⟨h1, h2, by show (winK P x k).2.2 ≤ k + 1; omega⟩
/-- turns, how many bits were told -/
noncomputable def goK (P : Nat → Int) : Nat → (Nat → Int) × Nat
  | 0 => (P, 0)
  | k + 1 => (turnP (goK P k).1, (goK P k).2 + (if tb (goK P k).1 < nB (goK P k).1 then 1 else 0))
theorem goK_ok {P : Nat → Int} (ok : okP P) : ∀ k, okP (goK P k).1 ∧ stO P (goK P k).1 ∧ (goK P k).2 ≤ k
  | 0 => ⟨ok, stO.refl P, Nat.le_refl 0⟩
  | k + 1 => by
    obtain ⟨h1, h2, h3⟩ := goK_ok ok k
    refine ⟨turnP_ok h1, h2.trans (turnP_stO h1), ?_⟩
    show (goK P k).2 + (if tb (goK P k).1 < nB (goK P k).1 then 1 else 0) ≤ k + 1
    split <;> omega
/-- what was kept comes behind those that can be undone -/
def noteP (u P : Nat → Int) : Nat → Int := fun j => if j = 92 then (if P 92 = 10 then 10 else P 92 + 1) else if P 92 = 10 then (if 93 ≤ j ∧ j < 336 then P (j + 27) else if 336 ≤ j ∧ j < 363 then u (j - 336) else P j) else if 93 + 27 * (P 92).toNat ≤ j ∧ j < 93 + 27 * (P 92).toNat + 27 then u (j - (93 + 27 * (P 92).toNat)) else P j
theorem noteP_o {u P : Nat → Int} {j : Nat} (h : 0 ≤ P 92 ∧ P 92 ≤ 10) (hj : j < 92 ∨ 363 ≤ j) : noteP u P j = P j := by
  unfold noteP
  rw [if_neg (by omega)]
  split
  · rw [if_neg (by omega), if_neg (by omega)]
  · rw [if_neg (by omega)]
theorem noteP_ok {u P : Nat → Int} (ok : okP P) (h : 0 ≤ P 92 ∧ P 92 ≤ 10) : okP (noteP u P) := by
  refine ok.of (fun j hj => noteP_o h (by omega)) ?_
  have := ok.st
  have e : ∀ j, j < 27 → noteP u P (65 + j) = P (65 + j) := fun j hj => noteP_o h (by omega)
  unfold okS at this ⊢
  dsimp only at this ⊢
  obtain ⟨a, b, c⟩ := this
  refine ⟨?_, ?_, fun f hf => ⟨?_, ?_⟩⟩
  · rw [e 0 (by omega)]; exact a
  · rw [e 2 (by omega)]; exact b
  · rw [e (3 + f) (by omega)]; exact (c f hf).1
  · rw [e (19 + f) (by omega)]; exact (c f hf).2
