/-! WHAT THE LAW TYPES IS READ AS IT MEANS IT -/
def AtT (t : Tpe) (p : Nat) (R : List Nat) : Prop := p + R.length = t.1 ∧ ∀ (k c : Nat), R[k]? = some c → t.2 (p + k) = c ∧ c ≠ 32
section PRS
variable {t : Tpe} {p : Nat} {R : List Nat}
theorem AtT.nil (h : AtT t p []) : hrT t p = 0 ∧ skT t p = p := by
  have h1 : p = t.1 := by simpa using h.1
  have e : skT t p = p := by unfold skT; rw [h1, Nat.sub_self]; rfl
  refine ⟨?_, e⟩
  unfold hrT; rw [e, if_neg (by omega)]
theorem AtT.cons {c : Nat} (h : AtT t p (c :: R)) : hrT t p = c ∧ skT t p = p ∧ AtT t (p + 1) R := by
  have hl : p + (R.length + 1) = t.1 := by simpa using h.1
  obtain ⟨g1, g2⟩ := h.2 0 c rfl
  have e : skT t p = p := by
    unfold skT
    rw [show t.1 - p = R.length + 1 by omega]
    show (if t.2 p = 32 then _ else p) = p
    rw [if_neg (by rw [show t.2 p = c from g1]; exact g2)]
  refine ⟨?_, e, by omega, fun k x hk => ?_⟩
  · unfold hrT; rw [e, if_pos (by omega)]; exact g1
  · have := h.2 (k + 1) x (by simpa using hk)
    rw [show p + 1 + k = p + (k + 1) by omega]; exact this
theorem AtT.app {A : List Nat} : ∀ {p : Nat}, AtT t p (A ++ R) → AtT t (p + A.length) R := by
  induction A with
  | nil => intro p h; exact h
  | cons c A ih =>
    intro p h
    have := ih (AtT.cons (c := c) (R := A ++ R) h).2.2
    rw [show p + (c :: A).length = p + 1 + A.length by simp; omega]; exact this
theorem pDig_s {c lo hi : Nat} (h : AtT t p (c :: R)) (h1 : 48 + lo ≤ c) (h2 : c ≤ 48 + hi) : pDig t lo hi p = (p + 1, some (c - 48)) := by
  obtain ⟨e1, e2, e3⟩ := h.cons
  unfold pDig; rw [e1, e2, if_pos ⟨h1, h2⟩]
theorem idK_srt : ∀ k, k < 5 → idK (srt k) = some k := by decide +kernel
def wch (w : Nat) : Nat := if w = 0 then 60 else if w = 1 then 62 else 61
theorem idW_wch : ∀ w, w < 3 → idW (wch w) = some w := by decide +kernel
def ptx1 (kd dp : Nat → Nat) (lid : Option Nat) (q : Nat) : List Nat := (if q = 0 then [] else [44]) ++ ([srt (kd q), 48 + dp q] ++ (if lid = some q then [33] else []))
def ptx (kd dp : Nat → Nat) (lid : Option Nat) : Nat → List Nat
  | 0 => []
  | n + 1 => ptx kd dp lid n ++ ptx1 kd dp lid n
def ptxS (kd dp : Nat → Nat) (lid : Option Nat) : Nat → Nat → List Nat
  | _, 0 => []
  | k, r + 1 => ptx1 kd dp lid k ++ ptxS kd dp lid (k + 1) r
theorem ptx_S {kd dp : Nat → Nat} {lid : Option Nat} : ∀ r k, ptx kd dp lid (k + r) = ptx kd dp lid k ++ ptxS kd dp lid k r := by
  intro r
  induction r with
  | zero => intro k; simp [ptxS]
  | succ r ih =>
    intro k
    have := ih (k + 1)
    rw [show k + (r + 1) = k + 1 + r by omega, this]
    simp [ptx, ptxS]
def BPf (kd dp : Nat → Nat) : Nat → Bx
  | 0 => Bx0
  | n + 1 => (BPf kd dp n).addP (kd n) (dp n)
def lidA (lid : Option Nat) (k : Nat) : Option Nat := match lid with
  | some q => if q < k then some q else none
  | none => none
/-- what stands behind the panels -/
def Tl (R : List Nat) : Prop := R = [] ∨ ∃ R', R = 59 :: R'
theorem Tl.hr (hR : Tl R) (h : AtT t p R) : hrT t p ≠ 44 ∧ hrT t p ≠ 33 ∧ skT t p = p := by
  rcases hR with rfl | ⟨R', rfl⟩
  · rw [h.nil.1, h.nil.2]; exact ⟨by decide, by decide, rfl⟩
  · rw [h.cons.1, h.cons.2.1]; exact ⟨by decide, by decide, rfl⟩
theorem ptxS_hr {kd dp : Nat → Nat} {lid : Option Nat} {k r : Nat} (hk : 0 < k) (hR : Tl R) (h : AtT t p (ptxS kd dp lid k r ++ R)) : hrT t p ≠ 33 ∧ (0 < r → hrT t p = 44) := by
  cases r with
  | zero => exact ⟨(hR.hr h).2.1, fun q => absurd q (Nat.lt_irrefl 0)⟩
  | succ r =>
    have e : ptxS kd dp lid k (r + 1) ++ R = 44 :: ([srt (kd k), 48 + dp k] ++ (if lid = some k then [33] else []) ++ ptxS kd dp lid (k + 1) r ++ R) := by
      simp [ptxS, ptx1, show ¬ k = 0 by omega]
    rw [e] at h
    rw [h.cons.1]; exact ⟨by decide, fun _ => rfl⟩
theorem srt_ne : ∀ k, k < 5 → srt k ≠ 32 ∧ 32 ≤ srt k ∧ srt k ≤ 126 := by decide +kernel
theorem pPan_S {kd dp : Nat → Nat} {lid : Option Nat} {pn : Nat} (h5 : pn ≤ 4) (hk : ∀ q, q < pn → kd q < 5 ∧ 1 ≤ dp q ∧ dp q ≤ 3) (hR : Tl R) : ∀ r k p, k + r = pn → 0 < pn → AtT t p (ptxS kd dp lid k r ++ R) → pPan t (5 - k) k p (BPf kd dp k) (lidA lid k) = (p + (ptxS kd dp lid k r).length, some (BPf kd dp pn, lidA lid pn)) := by
  intro r
  induction r with
  | zero =>
    intro k p hkr h0 h
    have hkn : k = pn := by omega
    obtain ⟨e1, e2, e3⟩ := hR.hr h
    rw [show 5 - k = (4 - k) + 1 by omega]
    simp only [pPan]
    rw [if_pos ⟨by omega, e1⟩, e3, hkn]
    rfl
  | succ r ih =>
    intro k p hkr h0 h
    obtain ⟨k1, k2, k3⟩ := hk k (by omega)
    -- behind the comma
    have main : ∀ p', AtT t p' ([srt (kd k), 48 + dp k] ++ (if lid = some k then [33] else []) ++ (ptxS kd dp lid (k + 1) r ++ R)) → (match pPan1 t p' with
      | (q, none) => (q, none)
      | (q, some x) => if lidA lid k = none ∧ hrT t q = 33 then pPan t (4 - k) (k + 1) (skT t q + 1) ((BPf kd dp k).addP x.1 x.2) (some k) else pPan t (4 - k) (k + 1) q ((BPf kd dp k).addP x.1 x.2) (lidA lid k)) = (p' + 2 + (if lid = some k then 1 else 0) + (ptxS kd dp lid (k + 1) r).length, some (BPf kd dp pn, lidA lid pn)) := by
      intro p' h'
      have h' : AtT t p' (srt (kd k) :: (48 + dp k) :: ((if lid = some k then [33] else []) ++ (ptxS kd dp lid (k + 1) r ++ R))) := by simpa using h'
      obtain ⟨a1, a2, a3⟩ := h'.cons
      have e1 : pPan1 t p' = (p' + 2, some (kd k, dp k)) := by
        unfold pPan1
        rw [a1, idK_srt _ k1, a2]
        simp only
        rw [pDig_s a3 (by omega) (by omega)]
        simp
      rw [e1]
      simp only
      have a4 := a3.cons.2.2
      by_cases e : lid = some k
      · rw [if_pos e] at a4
        have a4 : AtT t (p' + 2) (33 :: (ptxS kd dp lid (k + 1) r ++ R)) := a4
        obtain ⟨b1, b2, b3⟩ := a4.cons
        have l1 : lidA lid k = none := by rw [e]; simp [lidA]
        have l2 : some k = lidA lid (k + 1) := by rw [e]; simp [lidA]
        rw [if_pos ⟨l1, b1⟩, b2, if_pos e, l2, show 4 - k = 5 - (k + 1) by omega]
        exact ih (k + 1) _ (by omega) h0 b3
      · rw [if_neg e] at a4
        have a4 : AtT t (p' + 2) (ptxS kd dp lid (k + 1) r ++ R) := a4
        have l2 : lidA lid k = lidA lid (k + 1) := by
          cases hl : lid with
          | none => rfl
          | some q =>
            have : q ≠ k := fun z => e (by rw [hl, z])
            simp only [lidA]
            by_cases z : q < k
            · rw [if_pos z, if_pos (by omega)]
            · rw [if_neg z, if_neg (by omega)]
        rw [if_neg (fun z => (ptxS_hr (by omega) hR a4).1 z.2), if_neg e, l2, show 4 - k = 5 - (k + 1) by omega]
        exact ih (k + 1) _ (by omega) h0 a4
    rw [show 5 - k = (4 - k) + 1 by omega]
    simp only [pPan]
    by_cases e0 : k = 0
    · subst e0
      have h' : AtT t p ([srt (kd 0), 48 + dp 0] ++ (if lid = some 0 then [33] else []) ++ (ptxS kd dp lid 1 r ++ R)) := by
        have : ptxS kd dp lid 0 (r + 1) ++ R = [srt (kd 0), 48 + dp 0] ++ (if lid = some 0 then [33] else []) ++ (ptxS kd dp lid 1 r ++ R) := by simp [ptxS, ptx1]
        rw [this] at h; exact h
      rw [if_neg (fun q => absurd q.1 (Nat.lt_irrefl 0)), if_neg (Nat.lt_irrefl 0)]
      refine (main p h').trans ?_
      congr 1
      simp [ptxS, ptx1]
      split <;> simp <;> omega
    · have h' : AtT t p (44 :: ([srt (kd k), 48 + dp k] ++ (if lid = some k then [33] else []) ++ (ptxS kd dp lid (k + 1) r ++ R))) := by
        have : ptxS kd dp lid k (r + 1) ++ R = 44 :: ([srt (kd k), 48 + dp k] ++ (if lid = some k then [33] else []) ++ (ptxS kd dp lid (k + 1) r ++ R)) := by simp [ptxS, ptx1, e0]
        rw [this] at h; exact h
      obtain ⟨a1, a2, a3⟩ := h'.cons
      rw [if_neg (fun q => q.2 a1), if_pos (by omega), a2]
      refine (main (p + 1) a3).trans ?_
      congr 1
      simp [ptxS, ptx1, e0]
      split <;> simp <;> omega
/-! places of a lock -/
def dgs : Nat → Nat → Nat → List Nat
  | 0, _, _ => []
  | r + 1, lo, s => (if s.testBit lo then [48 + lo] else []) ++ dgs r (lo + 1) s
def sHi : Nat → Nat → Nat → Nat
  | 0, _, _ => 0
  | r + 1, lo, s => (if s.testBit lo then 2 ^ lo else 0) ||| sHi r (lo + 1) s
theorem sHi_4 : ∀ s, s < 16 → sHi 4 0 s = s := by decide +kernel
/-- what stands behind a lock -/
def Tk (R : List Nat) : Prop := R = [] ∨ ∃ R', R = 44 :: R'
theorem Tk.hr (hR : Tk R) (h : AtT t p R) : hrT t p < 48 ∧ skT t p = p := by
  rcases hR with rfl | ⟨R', rfl⟩
  · rw [h.nil.1, h.nil.2]; exact ⟨by decide, rfl⟩
  · rw [h.cons.1, h.cons.2.1]; exact ⟨by decide, rfl⟩
theorem dgs_hr {s : Nat} (hR : Tk R) : ∀ r lo p, AtT t p (dgs r lo s ++ R) → (hrT t p < 48 ∨ 48 + lo ≤ hrT t p) ∧ skT t p = p := by
  intro r
  induction r with
  | zero => intro lo p h; exact ⟨Or.inl (hR.hr h).1, (hR.hr h).2⟩
  | succ r ih =>
    intro lo p h
    by_cases e : s.testBit lo = true
    · have h' : AtT t p ((48 + lo) :: (dgs r (lo + 1) s ++ R)) := by simpa [dgs, e] using h
      rw [h'.cons.1, h'.cons.2.1]; exact ⟨Or.inr (Nat.le_refl _), rfl⟩
    · have h' : AtT t p (dgs r (lo + 1) s ++ R) := by simpa [dgs, e] using h
      obtain ⟨g1, g2⟩ := ih (lo + 1) p h'
      exact ⟨by omega, g2⟩
theorem pPl_S {s dp : Nat} (hR : Tk R) (hdp : dp ≤ 3) : ∀ r lo a p n, lo + r = 4 → AtT t p (dgs r lo s ++ R) → (∀ i, lo ≤ i → s.testBit i = true → i ≤ dp) → dp + 1 ≤ lo + n → pPl t dp n lo a p = (p + (dgs r lo s).length, a ||| sHi r lo s) := by
  intro r
  induction r with
  | zero =>
    intro lo a p n hlo h hi hn
    obtain ⟨g1, g2⟩ := hR.hr h
    cases n with
    | zero => simp [pPl, dgs, sHi]
    | succ n =>
      simp only [pPl]
      have : pDig t lo dp p = (skT t p, none) := by unfold pDig; rw [if_neg (by omega)]
      rw [this, g2]
      simp [dgs, sHi]
  | succ r ih =>
    intro lo a p n hlo h hi hn
    by_cases e : s.testBit lo = true
    · have h' : AtT t p ((48 + lo) :: (dgs r (lo + 1) s ++ R)) := by simpa [dgs, e] using h
      have hle := hi lo (Nat.le_refl _) e
      obtain ⟨m, rfl⟩ : ∃ m, n = m + 1 := ⟨n - 1, by omega⟩
      simp only [pPl]
      rw [pDig_s h' (by omega) (by omega)]
      simp only
      rw [show 48 + lo - 48 = lo by omega, ih (lo + 1) (a ||| 2 ^ lo) (p + 1) m (by omega) h'.cons.2.2 (fun i h1 h2 => hi i (by omega) h2) (by omega)]
      simp [dgs, sHi, e, Nat.or_assoc]
      omega
    · have h' : AtT t p (dgs r (lo + 1) s ++ R) := by simpa [dgs, e] using h
      obtain ⟨g1, g2⟩ := dgs_hr hR r (lo + 1) p h'
      have same : pPl t dp n lo a p = pPl t dp n (lo + 1) a p := by
        cases n with
        | zero => rfl
        | succ n =>
          simp only [pPl]
          have : pDig t lo dp p = pDig t (lo + 1) dp p := by
            unfold pDig
            by_cases z : 48 + lo ≤ hrT t p ∧ hrT t p ≤ 48 + dp
            · rw [if_pos z, if_pos (by omega)]
            · rw [if_neg z, if_neg (by omega)]
          rw [this]
      rw [same, ih (lo + 1) a p n (by omega) h' (fun i h1 h2 => hi i (by omega) h2) (by omega)]
      simp [dgs, sHi, e]
def lbd (ow wy ot ps : Nat → Nat) (l : Nat) : List Nat := [48 + ow l, wch (wy l), 48 + ot l] ++ dgs 4 0 (ps l)
def ltx1 (ow wy ot ps : Nat → Nat) (l : Nat) : List Nat := (if l = 0 then 59 else 44) :: lbd ow wy ot ps l
def ltx (ow wy ot ps : Nat → Nat) : Nat → List Nat
  | 0 => []
  | n + 1 => ltx ow wy ot ps n ++ ltx1 ow wy ot ps n
def ltxS (ow wy ot ps : Nat → Nat) : Nat → Nat → List Nat
  | _, 0 => []
  | k, r + 1 => ltx1 ow wy ot ps k ++ ltxS ow wy ot ps (k + 1) r
theorem ltx_S {ow wy ot ps : Nat → Nat} : ∀ r k, ltx ow wy ot ps (k + r) = ltx ow wy ot ps k ++ ltxS ow wy ot ps k r := by
  intro r
  induction r with
  | zero => intro k; simp [ltxS]
  | succ r ih =>
    intro k
    have := ih (k + 1)
    rw [show k + (r + 1) = k + 1 + r by omega, this]
    simp [ltx, ltxS]
def BLf (ow wy ot ps : Nat → Nat) (B : Bx) : Nat → Bx
  | 0 => B
  | n + 1 => (BLf ow wy ot ps B n).addL (ow n) (wy n) (ot n) (ps n)
theorem BLf_p {ow wy ot ps : Nat → Nat} {B : Bx} : ∀ n, (BLf ow wy ot ps B n).pn = B.pn ∧ (BLf ow wy ot ps B n).kd = B.kd ∧ (BLf ow wy ot ps B n).dp = B.dp ∧ (BLf ow wy ot ps B n).ln = B.ln + n := by
  intro n
  induction n with
  | zero => exact ⟨rfl, rfl, rfl, rfl⟩
  | succ n ih => exact ⟨ih.1, ih.2.1, ih.2.2.1, by show (BLf ow wy ot ps B n).ln + 1 = _; rw [ih.2.2.2]; omega⟩
theorem ltxS_Tk {ow wy ot ps : Nat → Nat} {k r : Nat} (hk : 0 < k) : Tk (ltxS ow wy ot ps k r) := by
  cases r with
  | zero => exact Or.inl rfl
  | succ r => exact Or.inr ⟨_, by simp only [ltxS, ltx1]; rw [if_neg (by omega)]; rfl⟩
/-- what is asked of a lock of the text -/
def okL1 (B : Bx) (a w o s : Nat) : Prop := a < B.pn ∧ w < 3 ∧ o < B.pn ∧ a ≠ o ∧ 1 ≤ s ∧ s < 2 ^ (B.dp o + 1) ∧ B.dp o ≤ 3
theorem pLk1_S {ow wy ot ps : Nat → Nat} {B : Bx} {l : Nat} (h : AtT t p (lbd ow wy ot ps l ++ R)) (hR : Tk R) (hp5 : B.pn ≤ 5) (hk : okL1 B (ow l) (wy l) (ot l) (ps l)) : pLk1 t B p = (p + (lbd ow wy ot ps l).length, some (ow l, wy l, ot l, ps l)) := by
  obtain ⟨k1, k2, k3, k4, k5, k6, k7⟩ := hk
  have h : AtT t p ((48 + ow l) :: wch (wy l) :: (48 + ot l) :: (dgs 4 0 (ps l) ++ R)) := by simpa [lbd] using h
  obtain ⟨a1, a2, a3⟩ := h.cons
  obtain ⟨b1, b2, b3⟩ := a3.cons
  obtain ⟨c1, c2, c3⟩ := b3.cons
  have hs16 : ps l < 16 := Nat.lt_of_lt_of_le k6 (Nat.pow_le_pow_right (n := 2) (m := 4) (by decide) (by omega))
  have hpl := pPl_S (s := ps l) (dp := B.dp (ot l)) hR k7 4 0 0 _ (B.dp (ot l) + 1) rfl c3 (fun i _ hi => by
    rcases Nat.lt_or_ge (B.dp (ot l)) i with z | z
    · have h1 : ps l < 2 ^ i := Nat.lt_of_lt_of_le k6 (Nat.pow_le_pow_right (by decide) z)
      rw [Nat.testBit_lt_two_pow h1] at hi; cases hi
    · exact z) (by omega)
  rw [sHi_4 _ hs16, Nat.zero_or] at hpl
  unfold pLk1
  rw [pDig_s h (by omega) (by omega)]
  simp only
  rw [b1, idW_wch _ k2]
  simp only
  rw [b2, c1, if_neg (by omega), pDig_s b3 (by omega) (by omega)]
  simp only
  rw [show 48 + ot l - 48 = ot l by omega, show 48 + ow l - 48 = ow l by omega, hpl]
  simp only
  rw [if_neg (by omega)]
  simp [lbd]
  omega
theorem pLks_S {ow wy ot ps : Nat → Nat} {B : Bx} {ln : Nat} (h6 : ln ≤ 6) (hp5 : B.pn ≤ 5) (hk : ∀ l, l < ln → okL1 B (ow l) (wy l) (ot l) (ps l)) : ∀ r l p, l + r = ln → 0 < l → AtT t p (ltxS ow wy ot ps l r) → ∃ q, pLks t (6 - l) l p (BLf ow wy ot ps B l) = (q, some (BLf ow wy ot ps B ln)) := by
  intro r
  induction r with
  | zero =>
    intro l p hlr h0 h
    have e : l = ln := by omega
    obtain ⟨a1, a2⟩ := AtT.nil h
    subst e
    rcases Nat.lt_or_ge l 6 with q | q
    · rw [show 6 - l = (5 - l) + 1 by omega]
      simp only [pLks]
      rw [a1, if_pos ⟨h0, by decide⟩, if_pos rfl]
      exact ⟨_, rfl⟩
    · rw [show 6 - l = 0 by omega]
      simp only [pLks]
      rw [a1, if_pos rfl]
      exact ⟨_, rfl⟩
  | succ r ih =>
    intro l p hlr h0 h
    have h : AtT t p (44 :: (lbd ow wy ot ps l ++ ltxS ow wy ot ps (l + 1) r)) := by
      have e : ltxS ow wy ot ps l (r + 1) = 44 :: (lbd ow wy ot ps l ++ ltxS ow wy ot ps (l + 1) r) := by simp [ltxS, ltx1, show ¬ l = 0 by omega]
      rw [e] at h; exact h
    obtain ⟨a1, a2, a3⟩ := h.cons
    obtain ⟨b1, b2, b3, b4⟩ := BLf_p (ow := ow) (wy := wy) (ot := ot) (ps := ps) (B := B) l
    have hk' : okL1 (BLf ow wy ot ps B l) (ow l) (wy l) (ot l) (ps l) := by
      unfold okL1; rw [b1, b3]; exact hk l (by omega)
    rw [show 6 - l = (5 - l) + 1 by omega]
    simp only [pLks]
    rw [if_neg (fun q => q.2 a1), if_pos h0, a2, pLk1_S a3 (ltxS_Tk (by omega)) (by rw [b1]; exact hp5) hk']
    simp only
    obtain ⟨q, hq⟩ := ih (l + 1) _ (by omega) (by omega) a3.app
    rw [show 6 - (l + 1) = 5 - l by omega] at hq
    exact ⟨q, hq⟩
/-- the whole text -/
theorem box_S {kd dp ow wy ot ps : Nat → Nat} {lid : Option Nat} {pn ln : Nat} (V : Bv) (h4 : pn ≤ 4) (h0 : 0 < pn) (hlid : ∀ q, lid = some q → q < pn) (hk : ∀ q, q < pn → kd q < 5 ∧ 1 ≤ dp q ∧ dp q ≤ 3) (h6 : ln ≤ 6) (hp : (BPf kd dp pn).pn = pn) (hl : ∀ l, l < ln → okL1 (BPf kd dp pn) (ow l) (wy l) (ot l) (ps l)) (h : AtT t 0 (ptx kd dp lid pn ++ ltx ow wy ot ps ln)) : boxS V t = (nI (BLf ow wy ot ps (BPf kd dp pn) ln).pn, (BLf ow wy ot ps (BPf kd dp pn) ln, (lidN lid, 0, 0, V.dr), [])) := by
  have e1 : ptx kd dp lid pn = ptxS kd dp lid 0 pn := by
    have := ptx_S (kd := kd) (dp := dp) (lid := lid) pn 0
    rw [Nat.zero_add] at this; rw [this]; rfl
  rw [e1] at h
  have hlidA : lidA lid pn = lid := by
    cases hl : lid with
    | none => rfl
    | some q => simp only [lidA]; rw [if_pos (hlid q hl)]
  have hl0 : lidA lid 0 = none := by cases lid <;> simp [lidA]
  have key : ∀ (hT : Tl (ltx ow wy ot ps ln)), pPan t 5 0 0 Bx0 none = ((ptxS kd dp lid 0 pn).length, some (BPf kd dp pn, lid)) := by
    intro hT
    have := pPan_S (t := t) (lid := lid) h4 hk hT pn 0 0 (Nat.zero_add _) h0 h
    rw [hl0, hlidA, Nat.zero_add] at this
    exact this
  cases ln with
  | zero =>
    have a := AtT.app h
    obtain ⟨a1, a2⟩ := AtT.nil (show AtT t _ [] from a)
    rw [Nat.zero_add] at a1
    unfold boxS boxR
    rw [key (Or.inl rfl)]
    simp only
    rw [if_pos a1]
    rfl
  | succ ln =>
    have e2 : ltx ow wy ot ps (ln + 1) = 59 :: (lbd ow wy ot ps 0 ++ ltxS ow wy ot ps 1 ln) := by
      have := ltx_S (ow := ow) (wy := wy) (ot := ot) (ps := ps) (ln + 1) 0
      rw [Nat.zero_add] at this; rw [this]
      simp [ltx, ltxS, ltx1]
    have a := AtT.app h
    rw [e2, Nat.zero_add] at a
    obtain ⟨a1, a2, a3⟩ := a.cons
    have hb := pLk1_S (B := BPf kd dp pn) a3 (ltxS_Tk (by decide)) (by rw [hp]; omega) (hl 0 (by omega))
    obtain ⟨q, hq⟩ := pLks_S (t := t) (B := BPf kd dp pn) h6 (by rw [hp]; omega) hl ln 1 _ (by omega) (by decide) a3.app
    unfold boxS boxR
    rw [key (Or.inr ⟨_, e2⟩)]
    simp only
    rw [a1, if_neg (by decide), if_pos rfl, a2]
    have e3 : pLks t 6 0 ((ptxS kd dp lid 0 pn).length + 1) (BPf kd dp pn) = (q, some (BLf ow wy ot ps (BPf kd dp pn) (ln + 1))) := by
      simp only [pLks]
      rw [if_neg (fun z => absurd z.1 (Nat.lt_irrefl 0)), if_neg (Nat.lt_irrefl 0), hb]
      exact hq
    rw [e3]
end PRS
