/-! WHAT THE LAW TYPES IS READ AS IT MEANS IT -/
def AtT_z (t : Tpe) (p : Nat) (R : List Nat) : Prop := p + R.length = t.1 ∧ ∀ (k c : Nat), R[k]? = some c → t.2 (p + k) = c ∧ c ≠ 32
section PRS
variable {t : Tpe} {p : Nat} {R : List Nat}
theorem AtT_z.nil (h : AtT_z t p []) : hrT t p = 0 ∧ skT t p = p := by
  have h1 : p = t.1 := by simpa using h.1
  have e : skT t p = p := by unfold skT; rw [h1, Nat.sub_self]; rfl
  refine ⟨?_, e⟩
  unfold hrT; rw [e, if_neg (by omega)]
theorem AtT_z.cons {c : Nat} (h : AtT_z t p (c :: R)) : hrT t p = c ∧ skT t p = p ∧ AtT_z t (p + 1) R := by
  have hl : p + (R.length + 1) = t.1 := by simpa using h.1
  obtain ⟨g1, g2⟩ := h.2 0 c rfl
  have e : skT t p = p := by
    unfold skT
    rw [show t.1 - p = R.length + 1 by omega]
    show (if t.2 p = 32 then _ else p) = p
    rw [if_neg (by rw [show t.2 p = c from g1]; exact g2)]
  refine ⟨?_, e, by omega, fun k x hk => ?_⟩
  · unfold hrT; rw [e, if_pos (by omega)]; exact g1
  · have := h.2 (k + 1) x (by simpa using hk)
    rw [show p + 1 + k = p + (k + 1) by omega]; exact this
theorem AtT_z.app {A : List Nat} : ∀ {p : Nat}, AtT_z t p (A ++ R) → AtT_z t (p + A.length) R := by
  induction A with
  | nil => intro p h; exact h
  | cons c A ih =>
    intro p h
    have := ih (AtT_z.cons (c := c) (R := A ++ R) h).2.2
    rw [show p + (c :: A).length = p + 1 + A.length by simp; omega]; exact this
theorem pDig_s_z {c lo hi : Nat} (h : AtT_z t p (c :: R)) (h1 : 48 + lo ≤ c) (h2 : c ≤ 48 + hi) : pDig t lo hi p = (p + 1, some (c - 48)) := by
  obtain ⟨e1, e2, e3⟩ := h.cons
  unfold pDig; rw [e1, e2, if_pos ⟨h1, h2⟩]
theorem idK_srt_z : ∀ k, k < 5 → idK (srt_z k) = some k := by decide +kernel
def wch_z (w : Nat) : Nat := if w = 0 then 60 else if w = 1 then 62 else 61
theorem idW_wch_z : ∀ w, w < 3 → idW (wch_z w) = some w := by decide +kernel
def ptx1_z (kd dp : Nat → Nat) (lid : Option Nat) (q : Nat) : List Nat := (if q = 0 then [] else [44]) ++ ([srt_z (kd q), 48 + dp q] ++ (if lid = some q then [33] else []))
def ptx_z (kd dp : Nat → Nat) (lid : Option Nat) : Nat → List Nat
  | 0 => []
  | n + 1 => ptx_z kd dp lid n ++ ptx1_z kd dp lid n
def ptxS_z (kd dp : Nat → Nat) (lid : Option Nat) : Nat → Nat → List Nat
  | _, 0 => []
  | k, r + 1 => ptx1_z kd dp lid k ++ ptxS_z kd dp lid (k + 1) r
theorem ptx_S_z {kd dp : Nat → Nat} {lid : Option Nat} : ∀ r k, ptx_z kd dp lid (k + r) = ptx_z kd dp lid k ++ ptxS_z kd dp lid k r := by
  intro r
  induction r with
  | zero => intro k; simp [ptxS_z]
  | succ r ih =>
    intro k
    have := ih (k + 1)
    rw [show k + (r + 1) = k + 1 + r by omega, this]
    simp [ptx_z, ptxS_z]
def BPf_z (kd dp : Nat → Nat) : Nat → Bx
  | 0 => Bx0
  | n + 1 => (BPf_z kd dp n).addP (kd n) (dp n)
def lidA_z (lid : Option Nat) (k : Nat) : Option Nat := match lid with
  | some q => if q < k then some q else none
  | none => none
/-- what stands behind the panels -/
def Tl_z (R : List Nat) : Prop := R = [] ∨ ∃ R', R = 59 :: R'
theorem Tl_z.hr (hR : Tl_z R) (h : AtT_z t p R) : hrT t p ≠ 44 ∧ hrT t p ≠ 33 ∧ skT t p = p := by
  rcases hR with rfl | ⟨R', rfl⟩
  · rw [h.nil.1, h.nil.2]; exact ⟨by decide, by decide, rfl⟩
  · rw [h.cons.1, h.cons.2.1]; exact ⟨by decide, by decide, rfl⟩
theorem ptxS_hr_z {kd dp : Nat → Nat} {lid : Option Nat} {k r : Nat} (hk : 0 < k) (hR : Tl_z R) (h : AtT_z t p (ptxS_z kd dp lid k r ++ R)) : hrT t p ≠ 33 ∧ (0 < r → hrT t p = 44) := by
  cases r with
  | zero => exact ⟨(hR.hr h).2.1, fun q => absurd q (Nat.lt_irrefl 0)⟩
  | succ r =>
    have e : ptxS_z kd dp lid k (r + 1) ++ R = 44 :: ([srt_z (kd k), 48 + dp k] ++ (if lid = some k then [33] else []) ++ ptxS_z kd dp lid (k + 1) r ++ R) := by
      simp [ptxS_z, ptx1_z, show ¬ k = 0 by omega]
    rw [e] at h
    rw [h.cons.1]; exact ⟨by decide, fun _ => rfl⟩
theorem srt_ne_z : ∀ k, k < 5 → srt_z k ≠ 32 ∧ 32 ≤ srt_z k ∧ srt_z k ≤ 126 := by decide +kernel
theorem pPan_S_z {kd dp : Nat → Nat} {lid : Option Nat} {pn : Nat} (h5 : pn ≤ 4) (hk : ∀ q, q < pn → kd q < 5 ∧ 1 ≤ dp q ∧ dp q ≤ 3) (hR : Tl_z R) : ∀ r k p, k + r = pn → 0 < pn → AtT_z t p (ptxS_z kd dp lid k r ++ R) → pPan t (5 - k) k p (BPf_z kd dp k) (lidA_z lid k) = (p + (ptxS_z kd dp lid k r).length, some (BPf_z kd dp pn, lidA_z lid pn)) := by
  intro r
  induction r with
  | zero =>
    intro k p hkr h0 h
    have hkn : k = pn := by omega
    obtain ⟨e1, e2, e3⟩ := hR.hr h
    rw [show 5 - k = (4 - k) + 1 by omega]
    simp only [pPan]
    rw [if_pos ⟨by omega, e1⟩, e3, hkn]
    rfl
  | succ r ih =>
    intro k p hkr h0 h
    obtain ⟨k1, k2, k3⟩ := hk k (by omega)
    -- behind the comma
    have main : ∀ p', AtT_z t p' ([srt_z (kd k), 48 + dp k] ++ (if lid = some k then [33] else []) ++ (ptxS_z kd dp lid (k + 1) r ++ R)) → (match pPan1 t p' with
      | (q, none) => (q, none)
      | (q, some x) => if lidA_z lid k = none ∧ hrT t q = 33 then pPan t (4 - k) (k + 1) (skT t q + 1) ((BPf_z kd dp k).addP x.1 x.2) (some k) else pPan t (4 - k) (k + 1) q ((BPf_z kd dp k).addP x.1 x.2) (lidA_z lid k)) = (p' + 2 + (if lid = some k then 1 else 0) + (ptxS_z kd dp lid (k + 1) r).length, some (BPf_z kd dp pn, lidA_z lid pn)) := by
      intro p' h'
      have h' : AtT_z t p' (srt_z (kd k) :: (48 + dp k) :: ((if lid = some k then [33] else []) ++ (ptxS_z kd dp lid (k + 1) r ++ R))) := by simpa using h'
      obtain ⟨a1, a2, a3⟩ := h'.cons
      have e1 : pPan1 t p' = (p' + 2, some (kd k, dp k)) := by
        unfold pPan1
        rw [a1, idK_srt_z _ k1, a2]
        simp only
        rw [pDig_s_z a3 (by omega) (by omega)]
        simp
      rw [e1]
      simp only
      have a4 := a3.cons.2.2
      by_cases e : lid = some k
      · rw [if_pos e] at a4
        have a4 : AtT_z t (p' + 2) (33 :: (ptxS_z kd dp lid (k + 1) r ++ R)) := a4
        obtain ⟨b1, b2, b3⟩ := a4.cons
        have l1 : lidA_z lid k = none := by rw [e]; simp [lidA_z]
        have l2 : some k = lidA_z lid (k + 1) := by rw [e]; simp [lidA_z]
        rw [if_pos ⟨l1, b1⟩, b2, if_pos e, l2, show 4 - k = 5 - (k + 1) by omega]
        exact ih (k + 1) _ (by omega) h0 b3
      · rw [if_neg e] at a4
        have a4 : AtT_z t (p' + 2) (ptxS_z kd dp lid (k + 1) r ++ R) := a4
        have l2 : lidA_z lid k = lidA_z lid (k + 1) := by
          cases hl : lid with
          | none => rfl
          | some q =>
            have : q ≠ k := fun z => e (by rw [hl, z])
            simp only [lidA_z]
            by_cases z : q < k
            · rw [if_pos z, if_pos (by omega)]
            · rw [if_neg z, if_neg (by omega)]
        rw [if_neg (fun z => (ptxS_hr_z (by omega) hR a4).1 z.2), if_neg e, l2, show 4 - k = 5 - (k + 1) by omega]
        exact ih (k + 1) _ (by omega) h0 a4
    rw [show 5 - k = (4 - k) + 1 by omega]
    simp only [pPan]
    by_cases e0 : k = 0
    · subst e0
      have h' : AtT_z t p ([srt_z (kd 0), 48 + dp 0] ++ (if lid = some 0 then [33] else []) ++ (ptxS_z kd dp lid 1 r ++ R)) := by
        have : ptxS_z kd dp lid 0 (r + 1) ++ R = [srt_z (kd 0), 48 + dp 0] ++ (if lid = some 0 then [33] else []) ++ (ptxS_z kd dp lid 1 r ++ R) := by simp [ptxS_z, ptx1_z]
        rw [this] at h; exact h
      rw [if_neg (fun q => absurd q.1 (Nat.lt_irrefl 0)), if_neg (Nat.lt_irrefl 0)]
      refine (main p h').trans ?_
      congr 1
      simp [ptxS_z, ptx1_z]
      split <;> simp <;> omega
    · have h' : AtT_z t p (44 :: ([srt_z (kd k), 48 + dp k] ++ (if lid = some k then [33] else []) ++ (ptxS_z kd dp lid (k + 1) r ++ R))) := by
        have : ptxS_z kd dp lid k (r + 1) ++ R = 44 :: ([srt_z (kd k), 48 + dp k] ++ (if lid = some k then [33] else []) ++ (ptxS_z kd dp lid (k + 1) r ++ R)) := by simp [ptxS_z, ptx1_z, e0]
        rw [this] at h; exact h
      obtain ⟨a1, a2, a3⟩ := h'.cons
      rw [if_neg (fun q => q.2 a1), if_pos (by omega), a2]
      refine (main (p + 1) a3).trans ?_
      congr 1
      simp [ptxS_z, ptx1_z, e0]
      split <;> simp <;> omega
/-! places of a lock -/
def dgs_z : Nat → Nat → Nat → List Nat
  | 0, _, _ => []
  | r + 1, lo, s => (if s.testBit lo then [48 + lo] else []) ++ dgs_z r (lo + 1) s
def sHi_z : Nat → Nat → Nat → Nat
  | 0, _, _ => 0
  | r + 1, lo, s => (if s.testBit lo then 2 ^ lo else 0) ||| sHi_z r (lo + 1) s
theorem sHi_4_z : ∀ s, s < 16 → sHi_z 4 0 s = s := by decide +kernel
/-- what stands behind a lock -/
def Tk_z (R : List Nat) : Prop := R = [] ∨ ∃ R', R = 44 :: R'
theorem Tk_z.hr (hR : Tk_z R) (h : AtT_z t p R) : hrT t p < 48 ∧ skT t p = p := by
  rcases hR with rfl | ⟨R', rfl⟩
  · rw [h.nil.1, h.nil.2]; exact ⟨by decide, rfl⟩
  · rw [h.cons.1, h.cons.2.1]; exact ⟨by decide, rfl⟩
theorem dgs_hr_z {s : Nat} (hR : Tk_z R) : ∀ r lo p, AtT_z t p (dgs_z r lo s ++ R) → (hrT t p < 48 ∨ 48 + lo ≤ hrT t p) ∧ skT t p = p := by
  intro r
  induction r with
  | zero => intro lo p h; exact ⟨Or.inl (hR.hr h).1, (hR.hr h).2⟩
  | succ r ih =>
    intro lo p h
    by_cases e : s.testBit lo = true
    · have h' : AtT_z t p ((48 + lo) :: (dgs_z r (lo + 1) s ++ R)) := by simpa [dgs_z, e] using h
      rw [h'.cons.1, h'.cons.2.1]; exact ⟨Or.inr (Nat.le_refl _), rfl⟩
    · have h' : AtT_z t p (dgs_z r (lo + 1) s ++ R) := by simpa [dgs_z, e] using h
      obtain ⟨g1, g2⟩ := ih (lo + 1) p h'
      exact ⟨by omega, g2⟩
theorem pPl_S_z {s dp : Nat} (hR : Tk_z R) (hdp : dp ≤ 3) : ∀ r lo a p n, lo + r = 4 → AtT_z t p (dgs_z r lo s ++ R) → (∀ i, lo ≤ i → s.testBit i = true → i ≤ dp) → dp + 1 ≤ lo + n → pPl t dp n lo a p = (p + (dgs_z r lo s).length, a ||| sHi_z r lo s) := by
  intro r
  induction r with
  | zero =>
    intro lo a p n hlo h hi hn
    obtain ⟨g1, g2⟩ := hR.hr h
    cases n with
    | zero => simp [pPl, dgs_z, sHi_z]
    | succ n =>
      simp only [pPl]
      have : pDig t lo dp p = (skT t p, none) := by unfold pDig; rw [if_neg (by omega)]
      rw [this, g2]
      simp [dgs_z, sHi_z]
  | succ r ih =>
    intro lo a p n hlo h hi hn
    by_cases e : s.testBit lo = true
    · have h' : AtT_z t p ((48 + lo) :: (dgs_z r (lo + 1) s ++ R)) := by simpa [dgs_z, e] using h
      have hle := hi lo (Nat.le_refl _) e
      obtain ⟨m, rfl⟩ : ∃ m, n = m + 1 := ⟨n - 1, by omega⟩
      simp only [pPl]
      rw [pDig_s_z h' (by omega) (by omega)]
      simp only
      rw [show 48 + lo - 48 = lo by omega, ih (lo + 1) (a ||| 2 ^ lo) (p + 1) m (by omega) h'.cons.2.2 (fun i h1 h2 => hi i (by omega) h2) (by omega)]
      simp [dgs_z, sHi_z, e, Nat.or_assoc]
      omega
    · have h' : AtT_z t p (dgs_z r (lo + 1) s ++ R) := by simpa [dgs_z, e] using h
      obtain ⟨g1, g2⟩ := dgs_hr_z hR r (lo + 1) p h'
      have same : pPl t dp n lo a p = pPl t dp n (lo + 1) a p := by
        cases n with
        | zero => rfl
        | succ n =>
          simp only [pPl]
          have : pDig t lo dp p = pDig t (lo + 1) dp p := by
            unfold pDig
            by_cases z : 48 + lo ≤ hrT t p ∧ hrT t p ≤ 48 + dp
            · rw [if_pos z, if_pos (by omega)]
            · rw [if_neg z, if_neg (by omega)]
          rw [this]
      rw [same, ih (lo + 1) a p n (by omega) h' (fun i h1 h2 => hi i (by omega) h2) (by omega)]
      simp [dgs_z, sHi_z, e]
def lbd_z (ow wy ot ps : Nat → Nat) (l : Nat) : List Nat := [48 + ow l, wch_z (wy l), 48 + ot l] ++ dgs_z 4 0 (ps l)
def ltx1_z (ow wy ot ps : Nat → Nat) (l : Nat) : List Nat := (if l = 0 then 59 else 44) :: lbd_z ow wy ot ps l
def ltx_z (ow wy ot ps : Nat → Nat) : Nat → List Nat
  | 0 => []
  | n + 1 => ltx_z ow wy ot ps n ++ ltx1_z ow wy ot ps n
def ltxS_z (ow wy ot ps : Nat → Nat) : Nat → Nat → List Nat
  | _, 0 => []
  | k, r + 1 => ltx1_z ow wy ot ps k ++ ltxS_z ow wy ot ps (k + 1) r
theorem ltx_S_z {ow wy ot ps : Nat → Nat} : ∀ r k, ltx_z ow wy ot ps (k + r) = ltx_z ow wy ot ps k ++ ltxS_z ow wy ot ps k r := by
  intro r
  induction r with
  | zero => intro k; simp [ltxS_z]
  | succ r ih =>
    intro k
    have := ih (k + 1)
    rw [show k + (r + 1) = k + 1 + r by omega, this]
    simp [ltx_z, ltxS_z]
def BLf_z (ow wy ot ps : Nat → Nat) (B : Bx) : Nat → Bx
  | 0 => B
  | n + 1 => (BLf_z ow wy ot ps B n).addL (ow n) (wy n) (ot n) (ps n)
theorem BLf_p_z {ow wy ot ps : Nat → Nat} {B : Bx} : ∀ n, (BLf_z ow wy ot ps B n).pn = B.pn ∧ (BLf_z ow wy ot ps B n).kd = B.kd ∧ (BLf_z ow wy ot ps B n).dp = B.dp ∧ (BLf_z ow wy ot ps B n).ln = B.ln + n := by
  intro n
  induction n with
  | zero => exact ⟨rfl, rfl, rfl, rfl⟩
  | succ n ih => exact ⟨ih.1, ih.2.1, ih.2.2.1, by show (BLf_z ow wy ot ps B n).ln + 1 = _; rw [ih.2.2.2]; omega⟩
theorem ltxS_Tk_z {ow wy ot ps : Nat → Nat} {k r : Nat} (hk : 0 < k) : Tk_z (ltxS_z ow wy ot ps k r) := by
  cases r with
  | zero => exact Or.inl rfl
  | succ r => exact Or.inr ⟨_, by simp only [ltxS_z, ltx1_z]; rw [if_neg (by omega)]; rfl⟩
/-- what is asked of a lock of the text -/
def okL1_z (B : Bx) (a w o s : Nat) : Prop := a < B.pn ∧ w < 3 ∧ o < B.pn ∧ a ≠ o ∧ 1 ≤ s ∧ s < 2 ^ (B.dp o + 1) ∧ B.dp o ≤ 3
theorem pLk1_S_z {ow wy ot ps : Nat → Nat} {B : Bx} {l : Nat} (h : AtT_z t p (lbd_z ow wy ot ps l ++ R)) (hR : Tk_z R) (hp5 : B.pn ≤ 5) (hk : okL1_z B (ow l) (wy l) (ot l) (ps l)) : pLk1 t B p = (p + (lbd_z ow wy ot ps l).length, some (ow l, wy l, ot l, ps l)) := by
  obtain ⟨k1, k2, k3, k4, k5, k6, k7⟩ := hk
  have h : AtT_z t p ((48 + ow l) :: wch_z (wy l) :: (48 + ot l) :: (dgs_z 4 0 (ps l) ++ R)) := by simpa [lbd_z] using h
  obtain ⟨a1, a2, a3⟩ := h.cons
  obtain ⟨b1, b2, b3⟩ := a3.cons
  obtain ⟨c1, c2, c3⟩ := b3.cons
  have hs16 : ps l < 16 := Nat.lt_of_lt_of_le k6 (show 2 ^ (B.dp (ot l) + 1) ≤ 2 ^ 4 from Nat.pow_le_pow_right (by decide) (by omega))
  have hpl := pPl_S_z (s := ps l) (dp := B.dp (ot l)) hR k7 4 0 0 _ (B.dp (ot l) + 1) rfl c3 (fun i _ hi => by
    rcases Nat.lt_or_ge (B.dp (ot l)) i with z | z
    · have h1 : ps l < 2 ^ i := Nat.lt_of_lt_of_le k6 (Nat.pow_le_pow_right (by decide) z)
      rw [Nat.testBit_lt_two_pow h1] at hi; cases hi
    · exact z) (by omega)
  rw [sHi_4_z _ hs16, Nat.zero_or] at hpl
  unfold pLk1
  rw [pDig_s_z h (by omega) (by omega)]
  simp only
  rw [b1, idW_wch_z _ k2]
  simp only
  rw [b2, c1, if_neg (by omega), pDig_s_z b3 (by omega) (by omega)]
  simp only
  rw [show 48 + ot l - 48 = ot l by omega, show 48 + ow l - 48 = ow l by omega, hpl]
  simp only
  rw [if_neg (by omega)]
  simp [lbd_z]
  omega
theorem pLks_S_z {ow wy ot ps : Nat → Nat} {B : Bx} {ln : Nat} (h6 : ln ≤ 6) (hp5 : B.pn ≤ 5) (hk : ∀ l, l < ln → okL1_z B (ow l) (wy l) (ot l) (ps l)) : ∀ r l p, l + r = ln → 0 < l → AtT_z t p (ltxS_z ow wy ot ps l r) → ∃ q, pLks t (6 - l) l p (BLf_z ow wy ot ps B l) = (q, some (BLf_z ow wy ot ps B ln)) := by
  intro r
  induction r with
  | zero =>
    intro l p hlr h0 h
    have e : l = ln := by omega
    obtain ⟨a1, a2⟩ := AtT_z.nil h
    subst e
    rcases Nat.lt_or_ge l 6 with q | q
    · rw [show 6 - l = (5 - l) + 1 by omega]
      simp only [pLks]
      rw [a1, if_pos ⟨h0, by decide⟩, if_pos rfl]
      exact ⟨_, rfl⟩
    · rw [show 6 - l = 0 by omega]
      simp only [pLks]
      rw [a1, if_pos rfl]
      exact ⟨_, rfl⟩
  | succ r ih =>
    intro l p hlr h0 h
    have h : AtT_z t p (44 :: (lbd_z ow wy ot ps l ++ ltxS_z ow wy ot ps (l + 1) r)) := by
      have e : ltxS_z ow wy ot ps l (r + 1) = 44 :: (lbd_z ow wy ot ps l ++ ltxS_z ow wy ot ps (l + 1) r) := by simp [ltxS_z, ltx1_z, show ¬ l = 0 by omega]
      rw [e] at h; exact h
    obtain ⟨a1, a2, a3⟩ := h.cons
    obtain ⟨b1, b2, b3, b4⟩ := BLf_p_z (ow := ow) (wy := wy) (ot := ot) (ps := ps) (B := B) l
    have hk' : okL1_z (BLf_z ow wy ot ps B l) (ow l) (wy l) (ot l) (ps l) := by
      unfold okL1_z; rw [b1, b3]; exact hk l (by omega)
    rw [show 6 - l = (5 - l) + 1 by omega]
    simp only [pLks]
    rw [if_neg (fun q => q.2 a1), if_pos h0, a2, pLk1_S_z a3 (ltxS_Tk_z (by omega)) (by rw [b1]; exact hp5) hk']
    simp only
    obtain ⟨q, hq⟩ := ih (l + 1) _ (by omega) (by omega) a3.app
    rw [show 6 - (l + 1) = 5 - l by omega] at hq
    exact ⟨q, hq⟩
/-- the whole text -/
theorem box_S_z {kd dp ow wy ot ps : Nat → Nat} {lid : Option Nat} {pn ln : Nat} (V : Bv) (h4 : pn ≤ 4) (h0 : 0 < pn) (hlid : ∀ q, lid = some q → q < pn) (hk : ∀ q, q < pn → kd q < 5 ∧ 1 ≤ dp q ∧ dp q ≤ 3) (h6 : ln ≤ 6) (hp : (BPf_z kd dp pn).pn = pn) (hl : ∀ l, l < ln → okL1_z (BPf_z kd dp pn) (ow l) (wy l) (ot l) (ps l)) (h : AtT_z t 0 (ptx_z kd dp lid pn ++ ltx_z ow wy ot ps ln)) : boxS V t = (nI (BLf_z ow wy ot ps (BPf_z kd dp pn) ln).pn, (BLf_z ow wy ot ps (BPf_z kd dp pn) ln, (lidN lid, 0, 0, V.dr), [])) := by
  have e1 : ptx_z kd dp lid pn = ptxS_z kd dp lid 0 pn := by
    have := ptx_S_z (kd := kd) (dp := dp) (lid := lid) pn 0
    rw [Nat.zero_add] at this; rw [this]; rfl
  rw [e1] at h
  have hlidA : lidA_z lid pn = lid := by
    cases hl : lid with
    | none => rfl
    | some q => simp only [lidA_z]; rw [if_pos (hlid q hl)]
  have hl0 : lidA_z lid 0 = none := by cases lid <;> simp [lidA_z]
  have key : ∀ (hT : Tl_z (ltx_z ow wy ot ps ln)), pPan t 5 0 0 Bx0 none = ((ptxS_z kd dp lid 0 pn).length, some (BPf_z kd dp pn, lid)) := by
    intro hT
    have := pPan_S_z (t := t) (lid := lid) h4 hk hT pn 0 0 (Nat.zero_add _) h0 h
    rw [hl0, hlidA, Nat.zero_add] at this
    exact this
  cases ln with
  | zero =>
    have a := AtT_z.app h
    obtain ⟨a1, a2⟩ := AtT_z.nil (show AtT_z t _ [] from a)
    rw [Nat.zero_add] at a1
    unfold boxS boxR
    rw [key (Or.inl rfl)]
    simp only
    rw [if_pos a1]
    rfl
  | succ ln =>
    have e2 : ltx_z ow wy ot ps (ln + 1) = 59 :: (lbd_z ow wy ot ps 0 ++ ltxS_z ow wy ot ps 1 ln) := by
      have := ltx_S_z (ow := ow) (wy := wy) (ot := ot) (ps := ps) (ln + 1) 0
      rw [Nat.zero_add] at this; rw [this]
      simp [ltx_z, ltxS_z, ltx1_z]
    have a := AtT_z.app h
    rw [e2, Nat.zero_add] at a
    obtain ⟨a1, a2, a3⟩ := a.cons
    have hb := pLk1_S_z (B := BPf_z kd dp pn) a3 (ltxS_Tk_z (by decide)) (by rw [hp]; omega) (hl 0 (by omega))
    obtain ⟨q, hq⟩ := pLks_S_z (t := t) (B := BPf_z kd dp pn) h6 (by rw [hp]; omega) hl ln 1 _ (by omega) (by decide) a3.app
    unfold boxS boxR
    rw [key (Or.inr ⟨_, e2⟩)]
    simp only
    rw [a1, if_neg (by decide), if_pos rfl, a2]
    have e3 : pLks t 6 0 ((ptxS_z kd dp lid 0 pn).length + 1) (BPf_z kd dp pn) = (q, some (BLf_z ow wy ot ps (BPf_z kd dp pn) (ln + 1))) := by
      simp only [pLks]
      rw [if_neg (fun z => absurd z.1 (Nat.lt_irrefl 0)), if_neg (Nat.lt_irrefl 0), hb]
      exact hq
    rw [e3]
end PRS
