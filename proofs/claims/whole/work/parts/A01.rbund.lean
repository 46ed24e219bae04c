/-! BUNDLES, by the reference: does one stand within the other -/
section
variable {nl : Bool} {Ln : Nat} {xs : Nat → Int32} {d : Nat} {σ : am_S} {o : Nat} {P : List mPol} {T : List mTell} {now : Int32} {inner : Nat}
def SeenR (σ : am_S) (o : Nat) (P : List mPol) (V : Nat → Bool) : Prop := ∀ i, i < P.length → am_aI σ (o + 59) i = b2i (V i)
def m_reach (P : List mPol) (T : List mTell) (now : Int32) (x y : Nat) : Prop := ∃ n, m_rch P T now n x y
theorem reach_rf {x : Nat} : m_reach P T now x x := ⟨0, rfl⟩
theorem reach_step {x y z : Nat} (h : m_edge P T now x y) (h2 : m_reach P T now y z) : m_reach P T now x z := by
  obtain ⟨n, hn⟩ := h2
  exact ⟨n + 1, Or.inr ⟨y, h, hn⟩⟩
/-- seen before, seen behind one that was gone through -/
def StP (P : List mPol) (T : List mTell) (now : Int32) (inner : Nat) (V V' : Nat → Bool) (x : Nat) : Prop := (∀ y, V y = true → V' y = true) ∧ V' x = true ∧ ∀ y, V' y = true → V y = false → y ≠ inner ∧ ∀ z, m_edge P T now y z → V' z = true
theorem closed_out {V : Nat → Bool} (h : ∀ y, V y = true → y ≠ inner ∧ ∀ z, m_edge P T now y z → V z = true) : ∀ (n x : Nat), V x = true → ¬ m_rch P T now n x inner
  | 0, x, hx, q => (h x hx).1 q
  | n + 1, x, hx, q => by
    rcases q with q | ⟨z, q1, q2⟩
    · exact (h x hx).1 q
    · exact closed_out h n z ((h x hx).2 z q1) q2
theorem r_stands {F : Bool → am_S → Prop} (hi : inner < P.length) (h100 : P.length ≤ 100) (h200 : (tlA T 4).length ≤ 200) (hT : WfT T) (hpl : WfPl T P.length) : ∀ (n : Nat) (σ : am_S) (V : Nat → Bool) (x : Nat) (F : Bool → am_S → Prop), x < P.length → V x = false → (List.range P.length).countP (fun i => ! V i) ≤ n → SeenR σ o P V → OffK σ o → rPol σ o P → rPla σ o (tlA T 4) → am_fI σ 13000 o = now → (∀ σ', m_reach P T now x inner → Rc o [] [59] [] σ σ' → F true σ') → (∀ σ' V', SeenR σ' o P V' → StP P T now inner V V' x → Rc o [] [59] [] σ σ' → F false σ') → k_Ro_stands nl Ln xs (d + n + 2) o (Int32.ofNat inner) (Int32.ofNat x) σ F := by
  intro n
  induction n with
  | zero =>
    intro σ V x F hx hV hn
    have : 0 < (List.range P.length).countP (fun i => ! V i) := List.countP_pos_iff.mpr ⟨x, List.mem_range.mpr hx, by simp [hV]⟩
    omega
  | succ n ih =>
    intro σ V x F hx hV hn hS hK hP hR hnow KT KF
    have lo := hK.lo
    have bx : 0 ≤ (Int32.ofNat x).toInt ∧ (Int32.ofNat x).toInt < 100 := by rw [n32 (by omega)]; omega
    refine w_Ro_stands ⟨fun h => ?_, fun h => ⟨is_mk hK.2.1, oA_13087 hK bx.1 bx.2, ?_⟩⟩
    · rw [n32i (by omega) (by omega)] at h
      exact KT σ (by rw [h]; exact reach_rf) Rc.rf
    · have hne : inner ≠ x := fun q => h (by rw [q])
      rw [oG_13087 hK, n32c (by omega)]
      intro s4 q4
      have r4 : Rc o [] [59] [] σ s4 := by rw [q4]; exact Rc.saI (by decide)
      obtain ⟨V1, hV1⟩ : ∃ V1 : Nat → Bool, V1 = fun i => if i = x then true else V i := ⟨_, rfl⟩
      have hV1x : V1 x = true := by rw [hV1]; simp
      have hV1o : ∀ y, y ≠ x → V1 y = V y := fun y hy => by rw [hV1]; simp [hy]
      have hS1 : SeenR s4 o P V1 := by
        intro i hi'
        rw [saI_all q4]
        by_cases e : i = x
        · rw [if_pos e, e, hV1x]; rfl
        · rw [if_neg e, hV1o i e]; exact hS i hi'
      have hc1 : (List.range P.length).countP (fun i => ! V1 i) ≤ n := by
        have := cnt_lt (p := fun i => ! V1 i) (q := fun i => ! V i) (a := x) (List.range P.length) (List.mem_range.mpr hx) (fun y _ hy => by
          by_cases e : y = x
          · rw [e, hV1x] at hy; exact absurd hy (by decide)
          · rw [hV1o y e] at hy; exact hy) (by simp [hV1x]) (by simp [hV])
        omega
      have loop : ∀ (j k : Nat) (s : am_S) (W : Nat → Bool) (x4 : Option Value), k + j = 4 → Rc o [] [59] [] σ s → SeenR s o P W → (∀ y, V1 y = true → W y = true) → (∀ y, W y = true → V y = false → y ≠ inner ∧ (y ≠ x → ∀ z, m_edge P T now y z → W z = true)) → (∀ q, q < k → ∀ z, m_part T x (Int32.ofNat q) now = some z → W z = true) → c_Ro_stands_16 nl Ln xs (d + (n + 1) + 2) o (Int32.ofNat inner) (Int32.ofNat x) (Int32.ofNat k) x4 s F := by
        have done : ∀ (s : am_S) (W : Nat → Bool), Rc o [] [59] [] σ s → SeenR s o P W → (∀ y, V1 y = true → W y = true) → (∀ y, W y = true → V y = false → y ≠ inner ∧ (y ≠ x → ∀ z, m_edge P T now y z → W z = true)) → (∀ z, m_edge P T now x z → W z = true) → F false s := by
          intro s W rs hSs h1 h2 h3
          refine KF s W hSs ⟨fun y hy => h1 y ?_, h1 x hV1x, fun y hy hv => ⟨(h2 y hy hv).1, fun z hz => ?_⟩⟩ rs
          · by_cases e : y = x
            · rw [e]; exact hV1x
            · rw [hV1o y e]; exact hy
          · by_cases e : y = x
            · rw [e] at hz; exact h3 z hz
            · exact (h2 y hy hv).2 e z hz
        intro j
        induction j with
        | zero =>
          intro k s W x4 hk rs hSs h1 h2 h3
          refine w_Ro_stands_16 ⟨fun q => ?_, fun _ => done s W rs hSs h1 h2 (fun z hz => ?_)⟩
          · rw [show k = 4 by omega] at q
            exact absurd q (by decide)
          · obtain ⟨-, q, hq, hz⟩ := hz
            exact h3 q (by omega) z hz
        | succ j ihj =>
          intro k s W x4 hk rs hSs h1 h2 h3
          have hKs := hK.rc rs
          have hPs := kPol.rc hP rs lo (by decide)
          have hRs := kPla.rc hR rs lo (by decide)
          have v1 : am_aI s (o + 1) x = (P.getD x mPol0).1 := hPs.2.1 _ _ (getD_some mPol0 hx)
          refine w_Ro_stands_16 ⟨fun _ => ⟨is_mk hKs.2.1, oA_13003 hKs bx.1 bx.2, ?_⟩, fun q => absurd (by rw [show (4 : Int32) = Int32.ofNat 4 from rfl, n32lt (by omega) (by omega)]; omega) q⟩
          rw [oG_13003 hKs, n32c (by omega), v1, (rs.fI (by simp)).trans hnow]
          refine ⟨fun h6 => ?_, fun h6 => done s W rs hSs h1 h2 (fun z hz => absurd hz.1 h6)⟩
          refine (r_partOf (d := d + (n + 1)) hKs hRs h200 hT hpl h100 (by omega) (fun _ => ?_))
          cases hpt : m_part T x (Int32.ofNat k) now with
          | none =>
            refine ⟨fun _ => ?_, fun q => absurd rfl q⟩
            rw [n32s]
            refine ihj (k + 1) s W _ (by omega) rs hSs h1 h2 (fun q hq z hz => ?_)
            by_cases e : q = k
            · rw [e, hpt] at hz; cases hz
            · exact h3 q (by omega) z hz
          | some y =>
            have hy := m_part_lt hpl hpt
            have by' : 0 ≤ (Int32.ofNat y).toInt ∧ (Int32.ofNat y).toInt < 100 := by rw [n32 (by omega)]; omega
            have hedge : m_edge P T now x y := ⟨h6, k, by omega, hpt⟩
            refine ⟨fun q => absurd q (ne_m1 (by omega)), fun _ => ⟨oA_13087 hKs by'.1 by'.2, ?_⟩⟩
            show (am_aI s ((am_fR s 13087 o).getD 0) (Int32.ofNat y).toNatClampNeg = 0 → _) ∧ (¬ am_aI s ((am_fR s 13087 o).getD 0) (Int32.ofNat y).toNatClampNeg = 0 → _)
            rw [oG_13087 hKs, n32c (by omega), hSs y hy]
            refine ⟨fun h0 => ?_, fun h0 => ?_⟩
            · have hW : W y = false := by cases h : W y <;> simp_all [b2i]
              have hcW : (List.range P.length).countP (fun i => ! W i) ≤ n := by
                have := cnt_mono (p := fun i => ! W i) (q := fun i => ! V1 i) (List.range P.length) (fun z _ hz => by
                  cases hv : V1 z
                  · rfl
                  · rw [h1 z hv] at hz; exact absurd hz (by decide))
                omega
              refine ih s W y _ hy hW hcW hSs hKs hPs hRs ((rs.fI (by simp)).trans hnow) (fun s10 hre r10 _ => ⟨fun _ => KT s10 (reach_step hedge hre) (rs.trans r10), fun q => absurd rfl q⟩) (fun s10 W' hS' hst r10 _ => ⟨fun q => absurd q (by decide), fun _ => ?_⟩)
              rw [n32s]
              refine ihj (k + 1) s10 W' _ (by omega) (rs.trans r10) hS' (fun z hz => hst.1 z (h1 z hz)) ?_ ?_
              · intro z hz hv
                cases hWz : W z with
                | true => exact ⟨(h2 z hWz hv).1, fun e u hu => hst.1 u ((h2 z hWz hv).2 e u hu)⟩
                | false => exact ⟨(hst.2.2 z hz hWz).1, fun _ u hu => (hst.2.2 z hz hWz).2 u hu⟩
              · intro q hq z hz
                by_cases e : q = k
                · rw [e, hpt] at hz
                  cases hz
                  exact hst.2.1
                · exact hst.1 z (h3 q (by omega) z hz)
            · have hW : W y = true := by cases h : W y <;> simp_all [b2i]
              rw [n32s]
              refine ihj (k + 1) s W _ (by omega) rs hSs h1 h2 (fun q hq z hz => ?_)
              by_cases e : q = k
              · rw [e, hpt] at hz
                cases hz
                exact hW
              · exact h3 q (by omega) z hz
      refine loop 4 0 s4 V1 none (by omega) r4 hS1 (fun y hy => hy) ?_ (fun q hq => by omega)
      intro y hy hv
      have e : y = x := Classical.byContradiction (fun q => by rw [hV1o y q, hv] at hy; cases hy)
      exact ⟨by rw [e]; exact fun q => hne q.symm, fun q => absurd e q⟩
theorem r_comesIn {outer : Nat} {F : Bool → am_S → Prop} (hi : inner < P.length) (ho : outer < P.length) (h100 : P.length ≤ 100) (h200 : (tlA T 4).length ≤ 200) (hT : WfT T) (hpl : WfPl T P.length) (hK : OffK σ o) (hP : rPol σ o P) (hR : rPla σ o (tlA T 4)) (hnow : am_fI σ 13000 o = now)
    (K1 : m_within P T now inner outer → ∀ σ', Rc o [] [59] [] σ σ' → F true σ') (K2 : ¬ m_within P T now inner outer → ∀ σ', Rc o [] [59] [] σ σ' → F false σ') : k_Ro_comesIn nl Ln xs (d + 103) o (Int32.ofNat inner) (Int32.ofNat outer) σ F := by
  have lo := hK.lo
  have loop : ∀ (j k : Nat) (s : am_S), k + j = P.length → Rc o [] [59] [] σ s → (∀ i, i < k → am_aI s (o + 59) i = 0) → c_Ro_comesIn_2 nl Ln xs (d + 103) o (Int32.ofNat inner) (Int32.ofNat outer) (Int32.ofNat k) s F := by
    intro j
    induction j with
    | zero =>
      intro k s hk rs hz
      have hKs := hK.rc rs
      refine w_Ro_comesIn_2 ⟨is_mk hKs.2.1, ?_, fun _ => ?_⟩
      · rw [(rs.fI (by simp)).trans hP.1, n32lt (by omega) (by omega)]
        exact fun q => absurd q (by omega)
      · have hc : (List.range P.length).countP (fun i => ! (fun _ : Nat => false) i) ≤ 100 := by
          have := List.countP_le_length (p := fun i => ! (fun _ : Nat => false) i) (l := List.range P.length)
          rw [List.length_range] at this
          omega
        refine (r_stands (d := d) (F := F) (now := now) hi h100 h200 hT hpl 100 s (fun _ => false) outer _ ho rfl hc (fun i hi' => hz i (by omega)) hKs (kPol.rc hP rs lo (by decide)) (kPla.rc hR rs lo (by decide)) ((rs.fI (by simp)).trans hnow) (fun s7 hre r7 _ => K1 hre s7 (rs.trans r7)) (fun s7 V' hS' hst r7 _ => K2 ?_ s7 (rs.trans r7)))
        rintro ⟨n, hn⟩
        exact closed_out (fun y hy => hst.2.2 y hy rfl) n outer hst.2.1 hn
    | succ j ih =>
      intro k s hk rs hz
      have hKs := hK.rc rs
      have bk : 0 ≤ (Int32.ofNat k).toInt ∧ (Int32.ofNat k).toInt < 100 := by rw [n32 (by omega)]; omega
      refine w_Ro_comesIn_2 ⟨is_mk hKs.2.1, fun _ => ⟨oA_13087 hKs bk.1 bk.2, ?_⟩, fun q => absurd (by rw [(rs.fI (by simp)).trans hP.1, n32lt (by omega) (by omega)]; omega) q⟩
      rw [oG_13087 hKs, n32c (by omega)]
      intro s4 q4
      have r4 : Rc o [] [59] [] s s4 := by rw [q4]; exact Rc.saI (by decide)
      rw [n32s]
      refine ih (k + 1) s4 (by omega) (rs.trans r4) ?_
      intro i hi'
      rw [saI_all q4]
      by_cases e : i = k
      · rw [if_pos e]; rfl
      · rw [if_neg e]; exact hz i (by omega)
  exact w_Ro_comesIn (loop P.length 0 σ (by omega) Rc.rf (fun i hi' => by omega))
end
