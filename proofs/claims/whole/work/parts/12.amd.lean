/-! TABLES OUT OF LISTS, and one check of them -/
/-- a class: its name, its fields (declaring class, name, descriptor, final), their types, the places of the words that lay them, the places of instantiable and initialized -/
abbrev am_dC : Type := String × List (String × String × String × Bool) × List FieldType × List Nat × Nat × Nat
/-- a method: number of its class' pool, name, code, locals, values taken, answer's type, instructions by place, places of its code's word and of its class' initialized -/
abbrev am_dM : Type := Nat × MethodName × ByteArray × Nat × Nat × Option FieldType × List (Option (Instr × Nat)) × Nat × Nat
/-- a link: place in the pool, kind, a, b, places of words -/
abbrev am_dL : Type := Nat × Nat × Nat × Nat × List Nat
/-- the words; classes; methods; the names of the pools' classes; links; int and long constants by pool; what is only read; array codes and types, with the place of their word -/
abbrev am_dT : Type := List (List Cond) × List am_dC × List am_dM × List String × List (List am_dL) × List (List (Nat × Int32)) × List (List (Nat × Int64)) × am_Z × List (Nat × FieldType)
abbrev am_dtc (D : am_dT) : List (List Cond) := D.1
abbrev am_dts (D : am_dT) : List Cond := D.1.flatten
/-- the word at a place: 1000 times its piece, and its place there -/
def am_wd (C : List (List Cond)) (p : Nat) : Option Cond := (C.getD (p / 1000) [])[p % 1000]?
theorem am_wd_mem {C : List (List Cond)} {p : Nat} {w : Cond} (h : am_wd C p = some w) : w ∈ C.flatten := by
  unfold am_wd at h
  have h1 := List.mem_of_getElem? h
  refine List.mem_flatten.mpr ⟨_, ?_, h1⟩
  rw [List.getD_eq_getElem?_getD] at h1 ⊢
  cases hq : C[p / 1000]? with
  | none => rw [hq] at h1; simp at h1
  | some l => exact List.mem_of_getElem? hq
abbrev am_dcl (D : am_dT) : List am_dC := D.2.1
abbrev am_dmt (D : am_dT) : List am_dM := D.2.2.1
abbrev am_don (D : am_dT) : List String := D.2.2.2.1
abbrev am_dlk (D : am_dT) : List (List am_dL) := D.2.2.2.2.1
abbrev am_dli (D : am_dT) : List (List (Nat × Int32)) := D.2.2.2.2.2.1
abbrev am_dll (D : am_dT) : List (List (Nat × Int64)) := D.2.2.2.2.2.2.1
abbrev am_dz (D : am_dT) : am_Z := D.2.2.2.2.2.2.2.1
abbrev am_dac (D : am_dT) : List (Nat × FieldType) := D.2.2.2.2.2.2.2.2
def am_c0 : am_dC := ("", [], [], [], 0, 0)
def am_m0 : am_dM := (0, ⟨"", "", ""⟩, ⟨#[]⟩, 0, 0, none, [], 0, 0)
def am_f0 : String × String × String × Bool := ("", "", "", true)
def am_gC (D : am_dT) (ci : Nat) : am_dC := (am_dcl D).getD ci am_c0
def am_gM (D : am_dT) (x : Nat) : am_dM := (am_dmt D).getD x am_m0
def am_uT (q : am_dC) : u_T := fun k => q.2.1.getD k am_f0
def am_dvc (D : am_dT) : List vw_C := (am_dcl D).map (fun q => (q.1, am_uT q, q.2.1.length))
def am_gL (D : am_dT) (c idx : Nat) : Option am_dL := ((am_dlk D).getD c []).find? (fun q => q.1 == idx)
def am_cn (D : am_dT) (x : Nat) : Nat := (am_gM D x).1
def am_isI (D : am_dT) (x : Nat) : Bool := (am_gM D x).2.1.name == "<init>"
/-- kind 19: a final field: it may be put in a constructor alone -/
def am_kl (ini : Bool) (q : am_dL) : Nat × Nat × Nat := (if q.2.1 = 19 then (if ini then 9 else 1) else q.2.1, q.2.2.1, q.2.2.2.1)
def am_tbl (D : am_dT) : am_T :=
  (fun x pc => ((am_gM D x).2.2.2.2.2.2.1.getD pc none),
   fun x idx => match am_gL D (am_cn D x) idx with
     | some q => am_kl (am_isI D x) q
     | none => (0, 0, 0),
   fun x idx => match ((am_dli D).getD (am_cn D x) []).find? (fun q => q.1 == idx) with
     | some q => q.2
     | none => 0,
   fun x idx => match ((am_dll D).getD (am_cn D x) []).find? (fun q => q.1 == idx) with
     | some q => q.2
     | none => 0,
   fun ci k => am_tc ((am_gC D ci).2.2.1.getD k .int),
   fun ci => (am_gC D ci).2.1.length,
   fun x => ((am_gM D x).2.2.2.1, (am_gM D x).2.2.2.2.1),
   fun j => if 100000 ≤ j then am_rc (am_gM D (j - 100000)).2.2.2.2.2.1 else match (am_dac D).find? (fun q => q.1 == j) with
     | some q => if q.1 < 1000 then 3 else if q.1 = 1500 then 2 else 1
     | none => 0,
   am_dz D)
def am_mch (D : am_dT) : am_M := (fun x => (am_don D).getD (am_cn D x) "", fun x => (am_gM D x).2.1, fun x => (am_gM D x).2.2.1, fun x => (am_gM D x).2.2.2.2.2.1)
/-- one class is as its words say -/
def am_kC (D : am_dT) (q : am_dC) : Bool :=
  decide (q.2.2.1.length = q.2.1.length) && decide (q.2.2.2.1.length = q.2.1.length) && (List.range q.2.1.length).all (fun k => decide (am_wd (am_dtc D) (q.2.2.2.1.getD k 0) = some (u_lay q.1 (am_uT q) k)) && decide (parseFieldDescriptor (am_uT q k).2.2.1 = some (q.2.2.1.getD k .int)) && decide (am_tc (q.2.2.1.getD k .int) < 4)) &&
  decide (q.2.1.map (fun f => f.2.1)).Nodup && decide (am_wd (am_dtc D) (q.2.2.2.2.1) = some (.instantiable q.1 q.2.1.length)) && decide (am_wd (am_dtc D) (q.2.2.2.2.2) = some (.initialized q.1))
/-- the code that the word at a place has -/
def am_cw (C : List (List Cond)) (p : Nat) : ByteArray := match am_wd C p with
  | some (.code _ c _ _) => c
  | _ => ⟨#[]⟩
def am_kw (C : List (List Cond)) (p : Nat) (y : MethodName) (n : Nat) (r : Option FieldType) : Bool := match am_wd C p with
  | some (.code y' _ n' r') => decide (y' = y) && decide (n' = n) && decide (r' = r)
  | _ => false
theorem am_kw_ok {C : List (List Cond)} {p n : Nat} {y : MethodName} {r : Option FieldType} (h : am_kw C p y n r = true) : Cond.code y (am_cw C p) n r ∈ C.flatten := by
  unfold am_kw at h
  split at h
  · rename_i y' c n' r' hw
    obtain ⟨h, h3⟩ : (decide (y' = y) && decide (n' = n)) = true ∧ decide (r' = r) = true := by simpa using h
    obtain ⟨h1, h2⟩ : decide (y' = y) = true ∧ decide (n' = n) = true := by simpa using h
    have e1 := of_decide_eq_true h1
    have e2 := of_decide_eq_true h2
    have e3 := of_decide_eq_true h3
    subst e1; subst e2; subst e3
    have : am_cw C p = c := by unfold am_cw; rw [hw]
    rw [this]
    exact am_wd_mem hw
  · cases h
def am_kM (D : am_dT) (q : am_dM) : Bool :=
  am_kw (am_dtc D) q.2.2.2.2.2.2.2.1 q.2.1 q.2.2.2.1 q.2.2.2.2.2.1 && plainFor q.2.1 && decide (q.2.1.cls = (am_don D).getD q.1 "") && decide (am_wd (am_dtc D) (q.2.2.2.2.2.2.2.2) = some (.initialized ((am_don D).getD q.1 ""))) && decide (q.2.1.cls ≠ "java/lang/invoke/MethodHandle") && decide (q.2.1.cls ≠ "java/lang/invoke/VarHandle")
def am_kIr (cd : ByteArray) : Nat → List (Option (Instr × Nat)) → Bool
  | _, [] => true
  | k, none :: t => am_kIr cd (k + 1) t
  | k, some r :: t => (match decode cd k with
    | .ok r' => decide (r' = r)
    | .error _ => false) && am_kIr cd (k + 1) t
def am_kI (q : am_dM) : Bool := am_kIr q.2.2.1 0 q.2.2.2.2.2.2.1
theorem am_kIr_ok {cd : ByteArray} : ∀ (l : List (Option (Instr × Nat))) (k j : Nat) (r : Instr × Nat), am_kIr cd k l = true → l[j]? = some (some r) → decode cd (k + j) = .ok r := by
  intro l
  induction l with
  | nil => intro k j r _ h; simp at h
  | cons o t ih =>
    intro k j r h hj
    cases o with
    | none =>
      cases j with
      | zero => simp at hj
      | succ j =>
        have := ih (k + 1) j r h (by simpa using hj)
        rw [show k + (j + 1) = k + 1 + j by omega]
        exact this
    | some q =>
      have h2 : ((match decode cd k with
        | .ok r' => decide (r' = q)
        | .error _ => false) && am_kIr cd (k + 1) t) = true := h
      obtain ⟨h3, h4⟩ : (match decode cd k with
        | .ok r' => decide (r' = q)
        | .error _ => false) = true ∧ am_kIr cd (k + 1) t = true := by simpa using h2
      cases j with
      | zero =>
        have e : q = r := by simpa using hj
        subst e
        split at h3
        · rename_i r' hr
          rw [Nat.add_zero, hr]
          exact congrArg Except.ok (of_decide_eq_true h3)
        · cases h3
      | succ j =>
        have := ih (k + 1) j r h4 (by simpa using hj)
        rw [show k + (j + 1) = k + 1 + j by omega]
        exact this
def am_np (d : String) : Option Nat := (parseMethodDescriptor d).map (fun d => d.parameters.length)
/-- the link of a method: a word, or one on nest mates -/
def am_kml (D : am_dT) (own : String) (idx : Nat) (y : MethodName) (p0 : Nat) : Bool := decide (am_wd (am_dtc D) (p0) = some (.methodLink own idx y)) || (match (am_zn (am_dz D))[p0 - 100000]? with
  | some (.methodLinkNest o i z _) => decide (100000 ≤ p0 ∧ o = own ∧ i = idx ∧ z = y)
  | _ => false)
def am_kfl (D : am_dT) (own : String) (idx : Nat) (f : String × String × String × Bool) (p0 : Nat) : Bool := decide (am_wd (am_dtc D) (p0) = some (.fieldLink own idx f.1 f.2.1 f.2.2.1)) || (match (am_zn (am_dz D))[p0 - 100000]? with
  | some (.fieldLinkNest o i c n d _) => decide (100000 ≤ p0 ∧ o = own ∧ i = idx ∧ c = f.1 ∧ n = f.2.1 ∧ d = f.2.2.1)
  | _ => false)
def am_kL (D : am_dT) (c : Nat) (q : am_dL) : Bool :=
  let own := (am_don D).getD c ""
  let p0 := q.2.2.2.2.getD 0 0
  let p1 := q.2.2.2.2.getD 1 0
  let p2 := q.2.2.2.2.getD 2 0
  match q.2.1 with
  | 1 => decide (q.2.2.1 < (am_dcl D).length) && decide (q.2.2.2.1 < (am_gC D q.2.2.1).2.1.length) && am_kfl D own q.1 (am_uT (am_gC D q.2.2.1) q.2.2.2.1) p0
  | 9 => decide (q.2.2.1 < (am_dcl D).length) && decide (q.2.2.2.1 < (am_gC D q.2.2.1).2.1.length) && am_kfl D own q.1 (am_uT (am_gC D q.2.2.1) q.2.2.2.1) p0 && !(am_uT (am_gC D q.2.2.1) q.2.2.2.1).2.2.2
  | 19 => decide (q.2.2.1 < (am_dcl D).length) && decide (q.2.2.2.1 < (am_gC D q.2.2.1).2.1.length) && decide (am_wd (am_dtc D) (p0) = some (.fieldLink own q.1 (am_uT (am_gC D q.2.2.1) q.2.2.2.1).1 (am_uT (am_gC D q.2.2.1) q.2.2.2.1).2.1 (am_uT (am_gC D q.2.2.1) q.2.2.2.1).2.2.1)) && (am_uT (am_gC D q.2.2.1) q.2.2.2.1).2.2.2 && decide ((am_uT (am_gC D q.2.2.1) q.2.2.2.1).1 = own)
  | 2 => decide (q.2.2.1 < (am_dcl D).length) && decide (am_wd (am_dtc D) (p0) = some (.classLink own q.1 (am_gC D q.2.2.1).1))
  | 3 => decide (100000 ≤ q.1) && (if q.2.2.1 = 500 then decide (am_wd (am_dtc D) (p0) = some (.classLink own (q.1 - 100000) "java/lang/String")) && decide ((am_zo (am_dz D))[p1]? = some "java/lang/String") && decide ((am_dac D)[p2]? = some (1500, .object "java/lang/String"))
      else decide (am_wd (am_dtc D) (p0) = some (.classLink own (q.1 - 100000) (am_gC D q.2.2.1).1)) && decide ((am_zo (am_dz D))[p1]? = some (am_gC D q.2.2.1).1) && decide ((am_dac D)[p2]? = some (1000 + q.2.2.1, .object (am_gC D q.2.2.1).1)))
  | 4 => (match ((am_dli D).getD c []).find? (fun w => w.1 == q.1) with
    | some w => decide (am_wd (am_dtc D) (p0) = some (.constant own q.1 w.2))
    | none => false)
  | 5 => (match (am_zt (am_dz D))[p0]? with
    | some w => decide (w.1 = own ∧ w.2.1 = q.1 ∧ w.2.2.2 = q.2.2.1)
    | none => false)
  | 6 => (match ((am_dll D).getD c []).find? (fun w => w.1 == q.1) with
    | some w => decide (am_wd (am_dtc D) (p0) = some (.constantLong own q.1 w.2))
    | none => false)
  | 7 => (match (am_zs (am_dz D))[p1]? with
    | some w => am_kfl D own q.1 (w.1, w.2.1, w.2.2.1, true) p0 && (if q.2.2.2.1 = 0 then decide (w.2.2.2 = .ref q.2.2.1) else if q.2.2.2.1 = 2 then decide (w.2.2.2 = .null) else (match ((am_dli D).getD c []).find? (fun w => w.1 == q.1) with
      | some z => decide (w.2.2.2 = .int z.2)
      | none => false))
    | none => false)
  | 8 => if q.2.2.1 = 0 then decide (am_wd (am_dtc D) (p0) = some (.fieldLink own q.1 "java/lang/String" "coder" "B")) else decide (am_wd (am_dtc D) (p0) = some (.fieldLink own q.1 "java/lang/String" "value" "[B"))
  | 10 => decide (q.2.2.1 + 1 < (am_dmt D).length) && decide ((am_np (am_gM D q.2.2.1).2.1.desc).map (· + 1) = some (am_gM D q.2.2.1).2.2.2.2.1) && am_kml D own q.1 (am_gM D q.2.2.1).2.1 p0 && decide (am_wd (am_dtc D) (p1) = some (.instanceMethod (am_gM D q.2.2.1).2.1)) && decide (am_wd (am_dtc D) (p2) = some (.selects (am_gM D q.2.2.1).2.1.cls (am_gM D q.2.2.1).2.1 (am_gM D q.2.2.1).2.1)) &&
      (if q.2.2.2.1 = 0 then decide ((am_gM D q.2.2.1).2.1.cls = "java/lang/String") else decide (q.2.2.2.1 < 1000) && decide (q.2.2.2.1 - 1 < (am_dcl D).length) && decide ((am_gC D (q.2.2.2.1 - 1)).1 = (am_gM D q.2.2.1).2.1.cls))
  | 11 => decide (q.2.2.1 + 1 < (am_dmt D).length) && decide ((am_np (am_gM D q.2.2.1).2.1.desc).map (· + 1) = some (am_gM D q.2.2.1).2.2.2.2.1) && am_kml D own q.1 (am_gM D q.2.2.1).2.1 p0 && decide (am_wd (am_dtc D) (p1) = some (.instanceMethod (am_gM D q.2.2.1).2.1)) && decide ((am_gM D q.2.2.1).2.1.name = "<init>") && decide ((am_gM D q.2.2.1).2.2.2.2.2.1 = none)
  | 12 => decide (q.2.2.1 + 1 < (am_dmt D).length) && decide (am_np (am_gM D q.2.2.1).2.1.desc = some (am_gM D q.2.2.1).2.2.2.2.1) && am_kml D own q.1 (am_gM D q.2.2.1).2.1 p0 && decide (am_wd (am_dtc D) (p1) = some (.static (am_gM D q.2.2.1).2.1))
  | 13 => decide (am_wd (am_dtc D) (p0) = some (.methodLink own q.1 Lib.objectInit)) && decide (am_wd (am_dtc D) (p1) = some (.instanceMethod Lib.objectInit)) && decide (am_wd (am_dtc D) (p2) = some (.code Lib.objectInit ⟨#[0xb1]⟩ 1 none))
  | 14 => decide (am_wd (am_dtc D) (p0) = some (.methodLink own q.1 arraycopyName)) && decide (am_wd (am_dtc D) (p1) = some (.native arraycopyName)) && decide (am_wd (am_dtc D) (p2) = some (.static arraycopyName)) && decide (am_wd (am_dtc D) (q.2.2.2.2.getD 3 0) = some (.initialized "java/lang/System"))
  | _ => false
def am_kA (D : am_dT) : Bool :=
  decide ((am_dac D)[0]? = some (0, .int)) && decide ((am_dac D)[1]? = some (1, .long)) && decide ((am_dac D)[2]? = some (2, .byte)) && decide ((am_dac D)[3]? = some (3, .boolean)) &&
  (am_dac D).all (fun q => if q.1 < 1000 then decide (q.1 < 4) else if q.1 = 1500 then decide (q.2 = .object "java/lang/String") else decide (q.1 - 1000 < (am_dcl D).length) && decide (q.1 - 1000 < 500) && decide (q.2 = .object (am_gC D (q.1 - 1000)).1)) && decide ((am_dcl D).length < 500)
theorem am_of_and {a b : Bool} (h : (a && b) = true) : a = true ∧ b = true := by simpa using h
theorem am_gM_mem {D : am_dT} {x : Nat} (h : x < (am_dmt D).length) : am_gM D x ∈ am_dmt D := by
  unfold am_gM
  rw [List.getD_eq_getElem?_getD, List.getElem?_eq_getElem h]
  exact List.getElem_mem h
theorem am_gC_mem {D : am_dT} {x : Nat} (h : x < (am_dcl D).length) : am_gC D x ∈ am_dcl D := by
  unfold am_gC
  rw [List.getD_eq_getElem?_getD, List.getElem?_eq_getElem h]
  exact List.getElem_mem h
theorem am_gL_mem {D : am_dT} {c idx : Nat} {q : am_dL} (h : am_gL D c idx = some q) : q ∈ (am_dlk D).getD c [] ∧ q.1 = idx := by
  unfold am_gL at h
  exact ⟨List.mem_of_find?_eq_some h, by have := List.find?_some h; simpa using this⟩
