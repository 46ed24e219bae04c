/-! THE CLASS: what stands within what; bundles -/
theorem nd_len : ∀ (n : Nat) (l : List Nat), l.Nodup → (∀ x ∈ l, x < n) → l.length ≤ n := by
  intro n
  induction n with
  | zero =>
    intro l _ h
    cases l with
    | nil => exact Nat.le_refl _
    | cons x l => exact absurd (h x List.mem_cons_self) (by omega)
  | succ n ih =>
    intro l nd h
    have h1 := ih (l.erase n) (nd.erase n) (fun x hx => by
      have := h x (List.mem_of_mem_erase hx)
      have : x ≠ n := fun z => by
        rw [z] at hx
        exact (List.Nodup.not_mem_erase nd) hx
      omega)
    have := List.length_erase (a := n) (l := l)
    split at this <;> omega
section
variable {P : List mPol} {T : List mTell} {now : Int32} {x y z : Nat}
theorem rch_snoc : ∀ (n : Nat) (x : Nat), m_rch P T now n x y → m_edge P T now y z → m_rch P T now (n + 1) x z
  | 0, x, h, e => by
    have h : x = y := h
    subst h
    exact Or.inr ⟨z, e, rfl⟩
  | n + 1, x, h, e => by
    rcases h with h | ⟨u, h1, h2⟩
    · subst h
      exact Or.inr ⟨z, e, by unfold m_rch; exact Or.inl rfl⟩
    · exact Or.inr ⟨u, h1, rch_snoc n u h2 e⟩
theorem rch_closed {S : Nat → Prop} (h : ∀ x, S x → ∀ y, m_edge P T now x y → S y) : ∀ (n : Nat) (x y : Nat), S x → m_rch P T now n x y → S y
  | 0, x, y, hx, hr => by
    have hr : x = y := hr
    rw [← hr]
    exact hx
  | n + 1, x, y, hx, hr => by
    rcases hr with hr | ⟨u, h1, h2⟩
    · rw [← hr]
      exact hx
    · exact rch_closed h n u y (h x hx u h1) h2
end
section
variable {nl : Bool} {Ln : Nat} {xs : Nat → Int32} {d : Nat} {σ : am_S} {w : ow_T} {b : Nat} {P : List mPol} {T : List mTell} {Ls : List mLoss} {Cs : List mCase} {now : Int32}
theorem bc_only {a : Nat} {σ' : am_S} (hK : BkK σ w b) (ha : a ∈ bkAs) (o : Only (bA σ b a) σ σ') : Bc b [] [a] σ w σ' w := ⟨fun c h => ⟨h, by rw [o.1]⟩, fun g _ => (o.2.2.2.2 g b).1, fun g _ => (o.2.2.2.2 g b).2.2, fun g hg h i => by
  have e := o.2.2.2.1 (bA σ b g) (hK.ne hg ha (fun z => h (by rw [z]; simp)))
  exact ⟨e.aI, e.aL, e.aR⟩⟩
theorem fr_only {a j : Nat} {σ' : am_S} (o : Only a σ σ') (h : w a ≠ (b, j)) : Fr σ w σ' w (b, j) := fun c hc => ⟨hc, o.2.2.2.1 c (fun z => h (by rw [← z]; exact hc))⟩
theorem BkD.qu {σ' : am_S} (hD : BkD σ w b P T Ls Cs) (o : Only (bA σ b 6009) σ σ') : BkD σ' w b P T Ls Cs := by
  obtain ⟨hK, hNm, hP, hL, hC, hT⟩ := hD
  have c := bc_only hK (by decide) o
  have wa := hK.2.2.2.2.2.2.2.2.2.2.1
  have fr : ∀ j, j ≠ 2 → Fr σ w σ' w (b, j) := fun j hj => fr_only o (by rw [wa]; exact fun z => hj (congrArg Prod.snd z).symm)
  exact ⟨hK.bc c, ⟨(c.2.1 _ (by simp)).trans hNm.1, (c.2.1 _ (by simp)).trans hNm.2.1, (c.2.1 _ (by simp)).trans hNm.2.2⟩, hP.bc c (by decide) (fun i _ => fr _ (by omega)), hL.bc c (by decide) (fun i _ => fr _ (by omega)), hC.bc c (by decide) (by decide) (by decide) (fun i _ => fr _ (by omega)), hT.bc c (by decide) ((o.2.2.2.2 _ _).2.2) (fr 1 (by decide))⟩
def QuR (σ : am_S) (a : Nat) (q : List Nat) : Prop := ∀ i x, q[i]? = some x → am_aI σ a i = Int32.ofNat x
theorem bk_standsWithin {i0 o0 ic oc : Nat} {F : Bool → am_S → Prop} (hD : BkD σ w b P T Ls Cs) (hw : WfD P T Ls Cs) (hi0 : i0 < P.length) (hic : am_aR σ (bA σ b 6004) i0 = some ic) (ho0 : o0 < P.length) (hoc : am_aR σ (bA σ b 6004) o0 = some oc) (hnow : am_fI σ 6015 b = now)
    (K : ∀ σ' (bo : Bool), (bo = true ↔ m_within P T now i0 o0) → Only (bA σ b 6009) σ σ' → F bo σ') : k_Bk_standsWithin nl Ln xs (d + 2) b (some ic) (some oc) σ F := by
  have h100 := hw.1.1
  obtain ⟨hK, hNm, hP, -⟩ := id hD
  obtain ⟨-, -, hb1, -, a4, -, -, -, -, a9⟩ := id hK
  have cell : ∀ {x : Nat}, x < P.length → ∃ c q, P[x]? = some q ∧ am_aR σ (bA σ b 6004) x = some c ∧ PoR σ w (b, 100 + x) c x q (tlP T x) := fun {x} hx => by
    obtain ⟨c, c1, c2⟩ := hP x _ (getD_some mPol0 hx)
    exact ⟨c, _, getD_some mPol0 hx, c1, c2⟩
  obtain ⟨ic', qi, i1, i2, i3⟩ := cell hi0
  have e1 : ic' = ic := Option.some.inj (i2.symm.trans hic)
  subst e1
  obtain ⟨oc', qo, p1, p2, p3⟩ := cell ho0
  have e2 : oc' = oc := Option.some.inj (p2.symm.trans hoc)
  subst e2
  -- as long as only the queue has changed
  have A4 : ∀ {σ1 : am_S}, Only (bA σ b 6009) σ σ1 → am_fR σ1 6009 b = some (bA σ b 6009) ∧ am_fR σ1 6004 b = some (bA σ b 6004) ∧ am_kd σ1 (bA σ b 6009) = (1000, 100) ∧ am_kd σ1 (bA σ b 6004) = (2009, 100) ∧ am_kd σ1 b = (7, 0) ∧ (∀ x, am_aR σ1 (bA σ b 6004) x = am_aR σ (bA σ b 6004) x) ∧ am_fI σ1 6015 b = now ∧ bA σ1 b 6004 = bA σ b 6004 := fun {σ1} o => ⟨(o.2.2.2.2 _ _).2.2.trans a9.1, (o.2.2.2.2 _ _).2.2.trans a4.1, by rw [o.1]; exact a9.2.2, by rw [o.1]; exact a4.2.2, by rw [o.1]; exact hK.2.1, fun x => (o.2.2.2.1 _ (hK.ne (by decide) (by decide) (by decide))).aR, ((o.2.2.2.2 _ _).1).trans hnow, by unfold bA; rw [(o.2.2.2.2 _ _).2.2]⟩
  have outer : ∀ (m dn : Nat) (q : List Nat) (σ1 : am_S) (x5 x6 x7 x8 x9 x10 : Option Value), dn + m = 100 → dn ≤ q.length → q.Nodup → (∀ x ∈ q, x < P.length) → (∀ x ∈ q, ∃ n, m_rch P T now n o0 x) → o0 ∈ q → (∀ k x, k < dn → q[k]? = some x → x ≠ i0 ∧ ∀ y, m_edge P T now x y → y ∈ q) → QuR σ1 (bA σ b 6009) q → Only (bA σ b 6009) σ σ1 → c_Bk_standsWithin_15 nl Ln xs (d + 2) b (some ic') (some oc') (Int32.ofNat q.length) (Int32.ofNat dn) x5 x6 x7 x8 x9 x10 σ1 F := by
    intro m
    induction m with
    | zero =>
      intro dn q σ1 x5 x6 x7 x8 x9 x10 hm hdn nd hlt hre hin hdone hq o
      have hl := nd_len P.length q nd hlt
      refine w_Bk_standsWithin_15 ⟨fun z => absurd ((n32lt (by omega) (by omega)).mp z) (by omega), fun _ => K σ1 false ⟨fun z => absurd z (by decide), fun ⟨n, hn⟩ => ?_⟩ o⟩
      exfalso
      have cl : ∀ x, x ∈ q → ∀ y, m_edge P T now x y → y ∈ q := fun x hx y hy => by
        obtain ⟨k, hk⟩ := List.getElem?_of_mem hx
        exact (hdone k x (by have := lt_of_get hk; omega) hk).2 y hy
      have hi := rch_closed (S := fun x => x ∈ q) cl n o0 i0 hin hn
      obtain ⟨k, hk⟩ := List.getElem?_of_mem hi
      exact (hdone k i0 (by have := lt_of_get hk; omega) hk).1 rfl
    | succ m ih =>
      intro dn q σ1 x5 x6 x7 x8 x9 x10 hm hdn nd hlt hre hin hdone hq o
      have hl := nd_len P.length q nd hlt
      by_cases hd : dn < q.length
      · obtain ⟨x, hx⟩ := get_ex hd
        have hxP := hlt x (List.mem_of_getElem? hx)
        obtain ⟨xc, qx, y1, y2, y3⟩ := cell hxP
        obtain ⟨g1, g2, g3, g4, g5, g6, g7, g8⟩ := A4 o
        have gx : P.getD x mPol0 = qx := getD_of mPol0 y1
        refine w_Bk_standsWithin_15 ⟨fun _ => ⟨fun _ => ⟨is_mk g5, ?_⟩, fun z => absurd (show Int32.ofNat dn < Int32.ofNat 100 by rw [n32lt (by omega) (by omega)]; omega) z⟩, fun z => absurd ((n32lt (by omega) (by omega)).mpr hd) z⟩
        rw [g1, g2, Option.getD_some, Option.getD_some, n32c (by omega), hq dn x hx, n32c (by omega), g6, y2]
        refine ⟨ar_mk g3 (by rw [n32 (by omega)]; omega) (by rw [n32 (by omega)]; omega), ar_mk g4 (by rw [n32 (by omega)]; omega) (by rw [n32 (by omega)]; omega), ?_⟩
        rintro v6 rfl
        have same : (some xc = some ic') ↔ x = i0 := by
          constructor
          · intro z
            have e := Option.some.inj z
            have h1 := y3.1
            rw [e, i3.1] at h1
            have : 100 + i0 = 100 + x := congrArg Prod.snd h1
            omega
          · intro z
            subst z
            rw [← y2, i2]
        refine ⟨hi_some y3.2.2.1, hi_some i3.2.2.1, fun h => ?_, fun h => ?_⟩
        · have hxi := same.mp h
          subst hxi
          exact K σ1 true ⟨fun _ => hre x (List.mem_of_getElem? hx), fun _ => rfl⟩ o
        · have hxi : x ≠ i0 := fun z => h (same.mpr z)
          -- the places
          have places : ∀ (r pl : Nat) (q' : List Nat) (s : am_S) (x7 x8 x9 x10 : Option Value), pl + r = 4 → dn < q'.length → q'.Nodup → (∀ x ∈ q', x < P.length) → (∀ x ∈ q', ∃ n, m_rch P T now n o0 x) → o0 ∈ q' → (∀ k x, k < dn → q'[k]? = some x → x ≠ i0 ∧ ∀ y, m_edge P T now x y → y ∈ q') → q'[dn]? = some x → (∀ k y, k < pl → m_part T x (Int32.ofNat k) now = some y → qx.1 = 6 → y ∈ q') → QuR s (bA σ b 6009) q' → Only (bA σ b 6009) σ s → c_Bk_standsWithin_53 nl Ln xs (d + 2) b (some ic') (some oc') (Int32.ofNat q'.length) (Int32.ofNat dn) (some xc) (Int32.ofNat pl) x7 x8 x9 x10 s F := by
            intro r
            induction r with
            | zero =>
              intro pl q' s x7 x8 x9 x10 hpl hd' nd' hlt' hre' hin' hdone' hx' hpt hq' o'
              have hpl : pl = 4 := by omega
              subst hpl
              refine w_Bk_standsWithin_53 ⟨fun z => absurd z (by decide), fun _ => ?_⟩
              rw [n32s]
              refine ih (dn + 1) q' s _ _ _ _ _ _ (by omega) (by omega) nd' hlt' hre' hin' (fun k y hk hy => ?_) hq' o'
              by_cases hkd : k = dn
              · subst hkd
                have : y = x := Option.some.inj (hy.symm.trans hx')
                subst this
                refine ⟨hxi, fun z he => ?_⟩
                obtain ⟨h6, k', hk', hp'⟩ := he
                exact hpt k' z hk' hp' (by rw [← gx]; exact h6)
              · exact hdone' k y (by omega) hy
            | succ r ihr =>
              intro pl q' s x7 x8 x9 x10 hpl hd' nd' hlt' hre' hin' hdone' hx' hpt hq' o'
              have hl' := nd_len P.length q' nd' hlt'
              obtain ⟨g1, g2, g3, g4, g5, g6, g7, g8⟩ := A4 o'
              have D' : BkD s w b P T Ls Cs := hD.qu o'
              have kdx : am_kd s xc = (10, 0) := by rw [o'.1]; exact y3.2.1
              have ix9 : am_fI s 9001 xc = qx.1 := (o'.2.2.2.2 _ _).1.trans y3.2.2.2.2.1
              refine w_Bk_standsWithin_53 ⟨fun _ => ⟨is_mk kdx, ?_⟩, fun z => absurd (show Int32.ofNat pl < Int32.ofNat 4 by rw [n32lt (by omega) (by omega)]; omega) z⟩
              rw [Option.getD_some, ix9, g7]
              refine ⟨fun h6 => ⟨is_mk g5, ?_⟩, fun h6 => ?_⟩
              · obtain ⟨xc2, z1, z2⟩ := D'.2.2.1 x qx y1
                have exc : xc2 = xc := Option.some.inj (z1.symm.trans (by rw [g8, g6]; exact y2))
                subst exc
                have el := look_tlP (T := T) (act := 4) (which := Int32.ofNat pl) (at' := now) (p := x) (by decide)
                -- it goes on behind this place
                have next : ∀ (q2 : List Nat) (s2 : am_S) (x7 x8 x9 x10 : Option Value), (∃ t, q2 = q' ++ t) → q2.Nodup → (∀ x ∈ q2, x < P.length) → (∀ x ∈ q2, ∃ n, m_rch P T now n o0 x) → (∀ y, m_part T x (Int32.ofNat pl) now = some y → y ∈ q2) → QuR s2 (bA σ b 6009) q2 → Only (bA σ b 6009) σ s2 → c_Bk_standsWithin_53 nl Ln xs (d + 2) b (some ic') (some oc') (Int32.ofNat q2.length) (Int32.ofNat dn) (some xc2) (Int32.ofNat pl + 1) x7 x8 x9 x10 s2 F := by
                  intro q2 s2 x7 x8 x9 x10 ⟨t, et⟩ nd2 hlt2 hre2 hp2 hq2 o2
                  have sub : ∀ y, y ∈ q' → y ∈ q2 := fun y hy => by rw [et]; exact List.mem_append_left _ hy
                  have gt : ∀ k, k < q'.length → q2[k]? = q'[k]? := fun k hk => by rw [et, List.getElem?_append_left hk]
                  rw [n32s]
                  refine ihr (pl + 1) q2 s2 x7 x8 x9 x10 (by omega) (by rw [et, List.length_append]; omega) nd2 hlt2 hre2 (sub _ hin') (fun k y hk hy => ?_) (by rw [gt dn hd']; exact hx') (fun k y hk hy h6' => ?_) hq2 o2
                  · rw [gt k (by omega)] at hy
                    have := hdone' k y hk hy
                    exact ⟨this.1, fun z hz => sub z (this.2 z hz)⟩
                  · by_cases hkp : k = pl
                    · subst hkp
                      exact hp2 y hy
                    · exact sub y (hpt k y (by omega) hy h6')
                have none' : m_part T x (Int32.ofNat pl) now = none → ∀ a6, c_Bk_standsWithin_121 nl Ln xs (d + 2) b (some ic') (some oc') (Int32.ofNat q'.length) (Int32.ofNat dn) (some xc2) (Int32.ofNat pl) a6 none 1 0 s F := fun hn a6 => by
                  have c160 : ∀ x10, c_Bk_standsWithin_160 nl Ln xs (d + 2) b (some ic') (some oc') (Int32.ofNat q'.length) (Int32.ofNat dn) (some xc2) (Int32.ofNat pl) a6 none 1 x10 s F := fun x10 => w_Bk_standsWithin_160 ⟨fun z => absurd z (by decide), fun _ => next q' s _ _ _ _ ⟨[], by simp⟩ nd' hlt' hre' (fun y hy => by rw [hn] at hy; exact absurd hy (by simp)) hq' o'⟩
                  exact w_Bk_standsWithin_121 ⟨fun _ => ⟨fun z => absurd z (by decide), fun _ => c160 _⟩, fun _ => c160 _⟩
                refine (en_known (d := d) z2.2.2.2.2.2.2.2 (fun g _ => ⟨fun _ => ?_, fun z => absurd rfl z⟩) (fun t e g he _ => ⟨fun z => absurd z (by simp), fun _ => ⟨is_mk he.2.1, ?_⟩⟩))
                · rw [if_pos rfl]
                  refine none' ?_ _
                  unfold m_part
                  rw [el, g]
                · have ht : -1 ≤ t.2.2.2.2.1.toInt ∧ t.2.2.2.2.1.toInt < P.length := hw.2.1.2.1 t (by
                    have := List.mem_of_find?_eq_some g
                    rw [List.mem_reverse] at this
                    exact (List.mem_filter.mp this).1) (by
                    have := List.find?_some g
                    unfold qT at this
                    simp at this
                    exact this.1)
                  rw [Option.getD_some, he.2.2.2.2.2.1]
                  refine (bk_policyAt (d := d) D' h100 (fun g2' _ => ?_) (fun c2 q2 g2' g3' g4' g5' _ => ?_))
                  · have hneg : t.2.2.2.2.1.toInt < 0 := by
                      unfold m_isPol at g2'
                      omega
                    rw [if_pos rfl]
                    refine none' ?_ _
                    unfold m_part
                    rw [el, g]
                    exact if_pos hneg
                  · have hpos : ¬ t.2.2.2.2.1.toInt < 0 := by have := g2'.1; omega
                    rw [if_neg (by simp)]
                    obtain ⟨y, hy⟩ : ∃ y, y = m_ix t.2.2.2.2.1 := ⟨_, rfl⟩
                    rw [← hy] at g3' g4' g5'
                    have hpart : m_part T x (Int32.ofNat pl) now = some y := by
                      unfold m_part
                      rw [el, g]
                      show (if t.2.2.2.2.1.toInt < 0 then none else some t.2.2.2.2.1.toInt.toNat) = some y
                      rw [if_neg hpos, hy]
                    have hyP := lt_of_get g3'
                    have hedge : m_edge P T now x y := ⟨by rw [gx]; exact h6, pl, by omega, hpart⟩
                    have c160 : ∀ (x9 : Bool) (x10 : Int32), (x9 = true ↔ y ∈ q') → c_Bk_standsWithin_160 nl Ln xs (d + 2) b (some ic') (some oc') (Int32.ofNat q'.length) (Int32.ofNat dn) (some xc2) (Int32.ofNat pl) (some e) (some c2) (b2i x9) x10 s F := by
                      intro x9 x10 hmem
                      cases x9 with
                      | true =>
                        exact w_Bk_standsWithin_160 ⟨fun z => absurd z (by decide), fun _ => next q' s _ _ _ _ ⟨[], by simp⟩ nd' hlt' hre' (fun y' hy' => by rw [hpart] at hy'; rw [← Option.some.inj hy']; exact hmem.mp rfl) hq' o'⟩
                      | false =>
                        have hnm : y ∉ q' := fun z => absurd (hmem.mpr z) (by decide)
                        have nd2 : (q' ++ [y]).Nodup := by
                          rw [List.nodup_append]
                          exact ⟨nd', List.nodup_cons.mpr ⟨by simp, List.nodup_nil⟩, fun u hu v hv z => hnm (by
                            have : v = y := by simpa using hv
                            rw [← this, ← z]
                            exact hu)⟩
                        have hlt2 : ∀ u ∈ q' ++ [y], u < P.length := fun u hu => by
                          rcases List.mem_append.mp hu with h | h
                          · exact hlt' u h
                          · have : u = y := by simpa using h
                            rw [this]
                            exact hyP
                        have hl2 := nd_len P.length (q' ++ [y]) nd2 hlt2
                        rw [len_app] at hl2
                        refine w_Bk_standsWithin_160 ⟨fun _ => ⟨fun _ => ⟨is_mk g5, is_mk g5'.2.1, ?_⟩, fun z => absurd (show Int32.ofNat q'.length < Int32.ofNat 100 by rw [n32lt (by omega) (by omega)]; omega) z⟩, fun z => absurd rfl z⟩
                        rw [g1, Option.getD_some, Option.getD_some, n32c (by omega), g5'.2.2.2.1]
                        refine ⟨ar_mk g3 (by rw [n32 (by omega)]; omega) (by rw [n32 (by omega)]; omega), ?_⟩
                        intro s6 e6
                        rw [n32s, ← len_app q' y]
                        refine next (q' ++ [y]) s6 _ _ _ _ ⟨[y], rfl⟩ nd2 hlt2 (fun u hu => ?_) (fun y' hy' => ?_) (fun k u hu => ?_) (o'.trans (by rw [e6]; exact Only.saI))
                        · rcases List.mem_append.mp hu with h | h
                          · exact hre' u h
                          · have : u = y := by simpa using h
                            rw [this]
                            obtain ⟨n, hn⟩ := hre' x (List.mem_of_getElem? hx')
                            exact ⟨n + 1, rch_snoc n o0 hn hedge⟩
                        · rw [hpart] at hy'
                          rw [← Option.some.inj hy']
                          simp
                        · rw [saI_all e6]
                          rcases get_app hu with hu | ⟨rfl, rfl⟩
                          · rw [if_neg (by have := lt_of_get hu; omega)]
                            exact hq' k u hu
                          · rw [if_pos rfl]
                    have srch : ∀ (r2 j : Nat) (x9 : Bool), j + r2 = q'.length → (x9 = true → y ∈ q') → (x9 = false → ∀ k, k < j → q'[k]? ≠ some y) → c_Bk_standsWithin_121 nl Ln xs (d + 2) b (some ic') (some oc') (Int32.ofNat q'.length) (Int32.ofNat dn) (some xc2) (Int32.ofNat pl) (some e) (some c2) (b2i x9) (Int32.ofNat j) s F := by
                      intro r2
                      induction r2 with
                      | zero =>
                        intro j x9 hj h1 h2
                        refine w_Bk_standsWithin_121 ⟨fun z => absurd ((n32lt (by omega) (by omega)).mp z) (by omega), fun _ => c160 x9 _ ⟨h1, fun hm => ?_⟩⟩
                        cases x9 with
                        | true => rfl
                        | false =>
                          obtain ⟨k, hk⟩ := List.getElem?_of_mem hm
                          exact absurd hk (h2 rfl k (by have := lt_of_get hk; omega))
                      | succ r2 ih2 =>
                        intro j x9 hj h1 h2
                        obtain ⟨u, hu⟩ := get_ex (show j < q'.length by omega)
                        have hup := hlt' u (List.mem_of_getElem? hu)
                        refine w_Bk_standsWithin_121 ⟨fun _ => ⟨fun z => ⟨is_mk g5, ?_⟩, fun z => c160 x9 _ ⟨h1, fun _ => ?_⟩⟩, fun z => absurd ((n32lt (by omega) (by omega)).mpr (by omega)) z⟩
                        · have hx9 : x9 = false := by
                            cases x9 with
                            | false => rfl
                            | true => exact absurd z (by decide)
                          rw [g1, Option.getD_some, Option.getD_some, n32c (by omega), hq' j u hu, g5'.2.2.2.1, n32s]
                          refine ⟨ar_mk g3 (by rw [n32 (by omega)]; omega) (by rw [n32 (by omega)]; omega), is_mk g5'.2.1, ?_⟩
                          by_cases huy : u = y
                          · rw [if_pos (by rw [huy])]
                            exact ih2 (j + 1) true (by omega) (fun _ => by rw [← huy]; exact List.mem_of_getElem? hu) (fun z => absurd z (by decide))
                          · rw [if_neg (fun z => huy (by rw [i32e, n32 (by omega), n32 (by omega)] at z; omega))]
                            refine ih2 (j + 1) false (by omega) (fun z => absurd z (by decide)) (fun _ k hk => ?_)
                            by_cases hkj : k = j
                            · subst hkj
                              rw [hu]
                              exact fun z => huy (Option.some.inj z)
                            · exact h2 hx9 k (by omega)
                        · cases x9 with
                          | true => rfl
                          | false => exact absurd rfl z
                    exact srch q'.length 0 false (by omega) (fun z => absurd z (by decide)) (fun _ k hk => absurd hk (by omega))
              · rw [n32s]
                refine ih (dn + 1) q' s _ _ _ _ _ _ (by omega) (by omega) nd' hlt' hre' hin' (fun k y hk hy => ?_) hq' o'
                by_cases hkd : k = dn
                · subst hkd
                  have : y = x := Option.some.inj (hy.symm.trans hx')
                  subst this
                  exact ⟨hxi, fun z he => absurd (by rw [← gx]; exact he.1) h6⟩
                · exact hdone' k y (by omega) hy
          exact places 4 0 q σ1 _ _ _ _ (by omega) hd nd hlt hre hin hdone hx (fun k y hk => absurd hk (by omega)) hq o
      · refine w_Bk_standsWithin_15 ⟨fun z => absurd ((n32lt (by omega) (by omega)).mp z) hd, fun _ => K σ1 false ⟨fun z => absurd z (by decide), fun ⟨n, hn⟩ => ?_⟩ o⟩
        exfalso
        have cl : ∀ x, x ∈ q → ∀ y, m_edge P T now x y → y ∈ q := fun x hx y hy => by
          obtain ⟨k, hk⟩ := List.getElem?_of_mem hx
          exact (hdone k x (by have := lt_of_get hk; omega) hk).2 y hy
        have hi := rch_closed (S := fun x => x ∈ q) cl n o0 i0 hin hn
        obtain ⟨k, hk⟩ := List.getElem?_of_mem hi
        exact (hdone k i0 (by have := lt_of_get hk; omega) hk).1 rfl
  refine w_Bk_standsWithin ⟨is_mk hK.2.1, is_mk p3.2.1, ?_⟩
  rw [a9.1, Option.getD_some, Option.getD_some, p3.2.2.2.1]
  refine ⟨ar_mk a9.2.2 (by decide) (by decide), ?_⟩
  intro s4 e4
  refine outer 100 0 [o0] s4 none none none none none none (by omega) (by simp) (List.nodup_cons.mpr ⟨by simp, List.nodup_nil⟩) (fun x hx => by rw [List.mem_singleton.mp hx]; exact ho0) (fun x hx => ⟨0, (List.mem_singleton.mp hx).symm⟩) (by simp) (fun k x hk => absurd hk (by omega)) (fun i x hx => ?_) (by rw [e4]; exact Only.saI)
  have hi : i = 0 := by have := lt_of_get hx; simp at this; omega
  subst hi
  have hx : o0 = x := Option.some.inj hx
  rw [← hx, e4]
  exact aI_same
end
