/-! the pure machine: values, memory, one instruction, a run of calls -/
abbrev jV : Type := Int32 ⊕ (Int64 ⊕ Option jR)
abbrev jM : Type := Nat → jA → Nat → Int32
/-- how many objects are made, which places of references aren't laid yet, the numbers -/
abbrev jS : Type := Nat × (List (jR × Nat) × jM)
abbrev jL : Type := List (Option jV)
abbrev jFr : Type := Nat × (jL × (List jV × jS))
abbrev jO : Type := jFr ⊕ ((Nat × (List jV × List jV)) ⊕ Option jV)
abbrev jI (x : Int32) : jV := .inl x
abbrev jJ (x : Int64) : jV := .inr (.inl x)
abbrev jRf (r : jR) : jV := .inr (.inr (some r))
abbrev jNl : jV := .inr (.inr none)
def jF (m pc : Nat) : Option (Instr × Nat) := ((jCodeT.getD m []).getD (pc / 16) []).lookup pc
def jLong (m : Nat) : List Nat := jLongT.getD m []
def jUp (M : jM) (k : Nat) (a : jA) (i : Nat) (x : Int32) : jM := fun k' a' i' => if k' = k ∧ a' = a ∧ i' = i then x else M k' a' i'
def jCp (M : jM) (a b : jA) (s d n : Nat) : jM := fun k c j => if k = 12 ∧ c = b then va_cpy (M 12 a) (M 12 b) s d n j else M k c j
/-- the script: its length -/
abbrev jSL (M : jM) : Int32 := M 17 (0, 1) 0
/-- the places of references of an object of a class -/
def jSlots (k : Nat) (a : jA) : List (jR × Nat) := ((List.range (jNT.getD k 0)).filter (fun s => (jIsRefT.getD k []).getD s false)).map (fun s => ((k, a), s))
def jPd (P : List (jR × Nat)) (r : jR) (s : Nat) : Bool := match P with
  | [] => false
  | _ => P.contains (r, s)
abbrev jnx (pc : Nat) (al : jL) (st : List jV) (σ : jS) : Option jO := some (.inl (pc, (al, (st, σ))))
/-- a store into a local: no first half of a long stands there or ahead of it -/
def jst (m : Nat) (al : jL) (i : Nat) (v : jV) : Option jL :=
  if (Nat.ble al.length i || (jLong m).contains i) || (Nat.ble 1 i && (jLong m).contains (i - 1)) then none else some (al.set i (some v))
def jsw (pc : Nat) (x : Int32) (lo : Int) (dflt : Int) : List Int → Nat
  | [] => ((pc : Int) + dflt).toNat
  | o :: os => if x.toInt = lo then ((pc : Int) + o).toNat else jsw pc x (lo + 1) dflt os
def jlk (pc : Nat) (x : Int32) (dflt : Int) : List (Int × Int) → Nat
  | [] => ((pc : Int) + dflt).toNat
  | q :: qs => if x.toInt = q.1 then ((pc : Int) + q.2).toNat else jlk pc x dflt qs
abbrev jTg (pc : Nat) (off : Int) : Nat := ((pc : Int) + off).toNat
def jbr (pc n : Nat) (al : jL) (st : List jV) (σ : jS) (off : Int) (q : Prop) [Decidable q] : Option jO :=
  if 0 ≤ (pc : Int) + off ∧ n = 3 then jnx (if q then jTg pc off else pc + 3) al st σ else none
def jpop (m' : Nat) (st : List jV) : Option (List jV × List jV) :=
  if (jParT.getD m' 0) ≤ st.length then
    if jStatT.getD m' false then some ((st.take (jParT.getD m' 0)).reverse, st.drop (jParT.getD m' 0))
    else match st.drop (jParT.getD m' 0) with
      | .inr (.inr (some r)) :: rest => if r.1 = jOwn m' then some (.inr (.inr (some r)) :: (st.take (jParT.getD m' 0)).reverse, rest) else none
      | _ => none
  else none
def jsm : jV → Bool
  | .inr (.inl _) => false
  | _ => true
/-- how an instruction calls: the callee's kind of call is the instruction's -/
def jkind (I : Instr) (m' : Nat) : Bool := match I with
  | .invokestatic _ => jStatT.getD m' false
  | .invokespecial _ => !(jStatT.getD m' false) && jInitT.getD m' false
  | .invokevirtual _ => !(jStatT.getD m' false) && !(jInitT.getD m' false)
  | _ => false
def jinv (m idx n : Nat) (st : List jV) (I : Instr) : Option jO :=
  match (jMthT.getD (jOwn m) []).lookup idx with
  | some m' => match jpop m' st with
    | some (as, rest) => if (rest.length ≤ 4 ∧ n = 3 ∧ m' < 198) ∧ as.length ≤ jMaxT.getD m' 0 ∧ as.all jsm = true ∧ jkind I m' = true then some (.inr (.inl (m', (as, rest)))) else none
    | none => none
  | none => none
def jent (m : Nat) (as : List jV) : jL := as.map some ++ List.replicate (jMaxT.getD m 0 - as.length) none
def jnar (r : Option FieldType) (v : jV) : Bool := match r, v with
  | some .int, .inl _ => true
  | some .boolean, .inl x => x = 0 ∨ x = 1
  | some (.object _), .inr (.inr _) => true
  | _, _ => false
def jstr : List Int32 := (("s0,8,0;s2,6,1;s1,4,8;s3,12,2;s0,10,3;h0,2,9;h1,0,6;h0,1,14;h2,3,20;h0,0,5;h0,2,11;b01423;g25;").toList.map fun c => Int32.ofNat c.toNat)
def jzero (M : jM) (k : Nat) (a : jA) (n : Nat) : Bool := (List.range n).all fun j => M k a j == 0
def jexe (m pc n : Nat) (al : jL) (st : List jV) (σ : jS) (I : Instr) : Option jO := match I with
  | .iconst i => jnx (pc + n) al (jI (Int32.ofInt i) :: st) σ
  | .bipush i => if -128 ≤ i ∧ i < 128 then jnx (pc + n) al (jI (Int32.ofInt i) :: st) σ else none
  | .sipush i => if -32768 ≤ i ∧ i < 32768 then jnx (pc + n) al (jI (Int32.ofInt i) :: st) σ else none
  | .lconst i => jnx (pc + n) al (jJ (Int64.ofNat (i : Nat)) :: st) σ
  | .aconst_null => jnx (pc + n) al (jNl :: st) σ
  | .ldc i => match (jCstT.getD (jOwn m) []).lookup i with
    | some x => jnx (pc + n) al (jI x :: st) σ
    | none => match (jStrT.getD (jOwn m) []).lookup i with
      | some _ => jnx (pc + n) al (jRf (18, (0, 0)) :: st) σ
      | none => none
  | .ldc_w i => match (jCstT.getD (jOwn m) []).lookup i with
    | some x => jnx (pc + n) al (jI x :: st) σ
    | none => none
  | .ldc2_w i => match (jLngT.getD (jOwn m) []).lookup i with
    | some x => jnx (pc + n) al (jJ x :: st) σ
    | none => none
  | .iload i => match al[i]? with
    | some (some (.inl x)) => jnx (pc + n) al (jI x :: st) σ
    | _ => none
  | .iload_n i => match al[(i : Nat)]? with
    | some (some (.inl x)) => jnx (pc + n) al (jI x :: st) σ
    | _ => none
  | .lload i => match al[i]? with
    | some (some (.inr (.inl x))) => jnx (pc + n) al (jJ x :: st) σ
    | _ => none
  | .lload_n i => match al[(i : Nat)]? with
    | some (some (.inr (.inl x))) => jnx (pc + n) al (jJ x :: st) σ
    | _ => none
  | .aload i => match al[i]? with
    | some (some (.inr (.inr x))) => jnx (pc + n) al (.inr (.inr x) :: st) σ
    | _ => none
  | .aload_n i => match al[(i : Nat)]? with
    | some (some (.inr (.inr x))) => jnx (pc + n) al (.inr (.inr x) :: st) σ
    | _ => none
  | .istore i => match st with
    | .inl x :: st => match jst m al i (jI x) with
      | some al' => jnx (pc + n) al' st σ
      | none => none
    | _ => none
  | .istore_n i => match st with
    | .inl x :: st => match jst m al (i : Nat) (jI x) with
      | some al' => jnx (pc + n) al' st σ
      | none => none
    | _ => none
  | .astore i => match st with
    | .inr (.inr x) :: st => match jst m al i (.inr (.inr x)) with
      | some al' => jnx (pc + n) al' st σ
      | none => none
    | _ => none
  | .astore_n i => match st with
    | .inr (.inr x) :: st => match jst m al (i : Nat) (.inr (.inr x)) with
      | some al' => jnx (pc + n) al' st σ
      | none => none
    | _ => none
  | .lstore i => match st with
    | .inr (.inl x) :: st => if jLong m = [i] ∧ i + 1 < al.length then jnx (pc + n) ((al.set (i + 1) none).set i (some (jJ x))) st σ else none
    | _ => none
  | .iinc i c => match al[i]? with
    | some (some (.inl x)) => match jst m al i (jI (x + Int32.ofInt c)) with
      | some al' => if n = 3 then jnx (pc + 3) al' st σ else none
      | none => none
    | _ => none
  | .pop => match st with
    | .inl _ :: st => jnx (pc + n) al st σ
    | _ => none
  | .dup => match st with
    | .inl x :: st => jnx (pc + n) al (jI x :: jI x :: st) σ
    | .inr (.inr x) :: st => jnx (pc + n) al (.inr (.inr x) :: .inr (.inr x) :: st) σ
    | _ => none
  | .dup2 => match st with
    | .inl x :: .inr (.inr y) :: st => jnx (pc + n) al (jI x :: .inr (.inr y) :: jI x :: .inr (.inr y) :: st) σ
    | _ => none
  | .iadd => match st with
    | .inl y :: .inl x :: st => jnx (pc + n) al (jI (x + y) :: st) σ
    | _ => none
  | .isub => match st with
    | .inl y :: .inl x :: st => jnx (pc + n) al (jI (x - y) :: st) σ
    | _ => none
  | .imul => match st with
    | .inl y :: .inl x :: st => jnx (pc + n) al (jI (x * y) :: st) σ
    | _ => none
  | .idiv => match st with
    | .inl y :: .inl x :: st => if y = 0 then none else jnx (pc + n) al (jI (x / y) :: st) σ
    | _ => none
  | .irem => match st with
    | .inl y :: .inl x :: st => if y = 0 then none else jnx (pc + n) al (jI (x % y) :: st) σ
    | _ => none
  | .iand => match st with
    | .inl y :: .inl x :: st => jnx (pc + n) al (jI (x &&& y) :: st) σ
    | _ => none
  | .ior => match st with
    | .inl y :: .inl x :: st => jnx (pc + n) al (jI (x ||| y) :: st) σ
    | _ => none
  | .ixor => match st with
    | .inl y :: .inl x :: st => jnx (pc + n) al (jI (x ^^^ y) :: st) σ
    | _ => none
  | .ishl => match st with
    | .inl y :: .inl x :: st => jnx (pc + n) al (jI (x <<< (y &&& 31)) :: st) σ
    | _ => none
  | .ishr => match st with
    | .inl y :: .inl x :: st => jnx (pc + n) al (jI (x >>> (y &&& 31)) :: st) σ
    | _ => none
  | .iushr => match st with
    | .inl y :: .inl x :: st => jnx (pc + n) al (jI (x.toUInt32 >>> (y.toUInt32 &&& Int32.toUInt32 31)).toInt32 :: st) σ
    | _ => none
  | .ineg => match st with
    | .inl x :: st => jnx (pc + n) al (jI (-x) :: st) σ
    | _ => none
  | .i2b => match st with
    | .inl x :: st => jnx (pc + n) al (jI x.toInt8.toInt32 :: st) σ
    | _ => none
  | .i2l => match st with
    | .inl x :: st => jnx (pc + n) al (jJ x.toInt64 :: st) σ
    | _ => none
  | .l2i => match st with
    | .inr (.inl x) :: st => jnx (pc + n) al (jI x.toInt32 :: st) σ
    | _ => none
  | .ladd => match st with
    | .inr (.inl y) :: .inr (.inl x) :: st => jnx (pc + n) al (jJ (x + y) :: st) σ
    | _ => none
  | .lmul => match st with
    | .inr (.inl y) :: .inr (.inl x) :: st => jnx (pc + n) al (jJ (x * y) :: st) σ
    | _ => none
  | .lrem => match st with
    | .inr (.inl y) :: .inr (.inl x) :: st => if y = 0 then none else jnx (pc + n) al (jJ (x % y) :: st) σ
    | _ => none
  | .goto off => if 0 ≤ (pc : Int) + off ∧ n = 3 then jnx (jTg pc off) al st σ else none
  | .ifCond c off => match st with
    | .inl x :: st => match c with
      | .eq => jbr pc n al st σ off (x = 0)
      | .ne => jbr pc n al st σ off (¬ x = 0)
      | .lt => jbr pc n al st σ off (x < 0)
      | .ge => jbr pc n al st σ off (0 ≤ x)
      | .gt => jbr pc n al st σ off (0 < x)
      | .le => jbr pc n al st σ off (x ≤ 0)
    | _ => none
  | .if_icmp c off => match st with
    | .inl y :: .inl x :: st => match c with
      | .eq => jbr pc n al st σ off (x = y)
      | .ne => jbr pc n al st σ off (¬ x = y)
      | .lt => jbr pc n al st σ off (x < y)
      | .ge => jbr pc n al st σ off (y ≤ x)
      | .gt => jbr pc n al st σ off (y < x)
      | .le => jbr pc n al st σ off (x ≤ y)
    | _ => none
  | .ifnull off => match st with
    | .inr (.inr none) :: st => jbr pc n al st σ off True
    | .inr (.inr (some _)) :: st => jbr pc n al st σ off False
    | _ => none
  | .ifnonnull off => match st with
    | .inr (.inr none) :: st => jbr pc n al st σ off False
    | .inr (.inr (some _)) :: st => jbr pc n al st σ off True
    | _ => none
  | .tableswitch dflt lo hi offs => match st with
    | .inl x :: st => if (0 ≤ (pc : Int) + dflt ∧ offs.toList.all (fun o => decide (0 ≤ (pc : Int) + o))) ∧ hi + 1 = lo + offs.toList.length then jnx (jsw pc x lo dflt offs.toList) al st σ else none
    | _ => none
  | .lookupswitch dflt ps => match st with
    | .inl x :: st => if (0 ≤ (pc : Int) + dflt ∧ ps.toList.all (fun q => decide (0 ≤ (pc : Int) + q.2))) ∧ (ps.toList.zip (ps.toList.drop 1)).all (fun (a, next) => a.1 < next.1) then jnx (jlk pc x dflt ps.toList) al st σ else none
    | _ => none
  | .getfield i => match (jFldT.getD (jOwn m) []).lookup i with
    | some (k, s) => match st with
      | .inr (.inr (some r)) :: st => if r.1 = k then
          (if (jIsRefT.getD k []).getD s false then (if jPd σ.2.1 (k, r.2) s then none else jnx (pc + n) al (jRf (jrf k r.2 s) :: st) σ)
          else jnx (pc + n) al (jI (σ.2.2 k r.2 s) :: st) σ) else none
      | _ => none
    | none => none
  | .putfield i => match (jFldT.getD (jOwn m) []).lookup i with
    | some (k, s) => match st with
      | .inl x :: .inr (.inr (some r)) :: st => if r.1 = k ∧ (jIsRefT.getD k []).getD s false = false ∧ (k = 11 ∧ s = 14 → x = 0 ∨ x = 1) then jnx (pc + n) al st (σ.1, (σ.2.1, jUp σ.2.2 k r.2 s x)) else none
      | .inr (.inr (some v)) :: .inr (.inr (some r)) :: st => if (r.1 = k ∧ (jIsRefT.getD k []).getD s false = true ∧ jInitT.getD m false = true ∧ jOwn m = k) ∧ v = jrf k r.2 s ∧ σ.2.1.contains ((k, r.2), s) ∧ (σ.2.1.erase ((k, r.2), s)).contains ((k, r.2), s) = false then jnx (pc + n) al st (σ.1, (σ.2.1.erase ((k, r.2), s), σ.2.2)) else none
      | _ => none
    | none => none
  | .iaload => match st with
    | .inl i :: .inr (.inr (some r)) :: st => if r.1 = 12 then (if 0 ≤ i ∧ i.toNatClampNeg < jLen 12 r.2 then jnx (pc + n) al (jI (σ.2.2 12 r.2 i.toNatClampNeg) :: st) σ else none)
        else if r = (17, (0, 0)) then (if 0 ≤ i ∧ i.toNatClampNeg < (jSL σ.2.2).toNatClampNeg then jnx (pc + n) al (jI (σ.2.2 17 (0, 0) i.toNatClampNeg) :: st) σ else none) else none
    | _ => none
  | .baload => match st with
    | .inl i :: .inr (.inr (some r)) :: st => if (r.1 = 13 ∨ r.1 = 14) ∧ 0 ≤ i ∧ i.toNatClampNeg < jLen r.1 r.2 then jnx (pc + n) al (jI (σ.2.2 r.1 r.2 i.toNatClampNeg) :: st) σ else none
    | _ => none
  | .iastore => match st with
    | .inl x :: .inl i :: .inr (.inr (some r)) :: st => if r.1 = 12 ∧ 0 ≤ i ∧ i.toNatClampNeg < jLen 12 r.2 then jnx (pc + n) al st (σ.1, (σ.2.1, jUp σ.2.2 12 r.2 i.toNatClampNeg x)) else none
    | _ => none
  | .bastore => match st with
    | .inl x :: .inl i :: .inr (.inr (some r)) :: st => if ((r.1 = 13 ∧ (x = 0 ∨ x = 1)) ∨ (r.1 = 14 ∧ x.toInt8.toInt32 = x)) ∧ 0 ≤ i ∧ i.toNatClampNeg < jLen r.1 r.2 then jnx (pc + n) al st (σ.1, (σ.2.1, jUp σ.2.2 r.1 r.2 i.toNatClampNeg x)) else none
    | _ => none
  | .aaload => match st with
    | .inl i :: .inr (.inr (some r)) :: st => if (r.1 = 15 ∨ r.1 = 16) ∧ 0 ≤ i ∧ i.toNatClampNeg < jLen r.1 r.2 then (if jPd σ.2.1 r i.toNatClampNeg then none else jnx (pc + n) al (jRf (jrf r.1 r.2 i.toNatClampNeg) :: st) σ) else none
    | _ => none
  | .aastore => match st with
    | .inr (.inr (some v)) :: .inl i :: .inr (.inr (some r)) :: st => if ((r.1 = 15 ∨ r.1 = 16) ∧ 0 ≤ i ∧ i.toNatClampNeg < jLen r.1 r.2) ∧ v = jrf r.1 r.2 i.toNatClampNeg ∧ σ.2.1.contains (r, i.toNatClampNeg) ∧ (σ.2.1.erase (r, i.toNatClampNeg)).contains (r, i.toNatClampNeg) = false then jnx (pc + n) al st (σ.1, (σ.2.1.erase (r, i.toNatClampNeg), σ.2.2)) else none
    | _ => none
  | .arraylength => match st with
    | .inr (.inr (some r)) :: st => if 12 ≤ r.1 ∧ r.1 ≤ 16 then jnx (pc + n) al (jI (Int32.ofNat (jLen r.1 r.2)) :: st) σ else if r = (17, (0, 0)) then jnx (pc + n) al (jI (jSL σ.2.2) :: st) σ else none
    | _ => none
  | .new i => match (jClsT.getD (jOwn m) []).lookup i, jRefs[σ.1]? with
    | some k, some r => if r.1 = k ∧ k < 12 ∧ jzero σ.2.2 k r.2 (jNT.getD k 0) then jnx (pc + n) al (jRf r :: st) (σ.1 + 1, (jSlots k r.2 ++ σ.2.1, σ.2.2)) else none
    | _, _ => none
  | .newarray t => match st, jRefs[σ.1]? with
    | .inl x :: st, some r => if ((t = .int ∧ r.1 = 12) ∨ (t = .boolean ∧ r.1 = 13) ∨ (t = .byte ∧ r.1 = 14)) ∧ 0 ≤ x ∧ x.toNatClampNeg = jLen r.1 r.2 ∧ jzero σ.2.2 r.1 r.2 (jLen r.1 r.2) then jnx (pc + n) al (jRf r :: st) (σ.1 + 1, σ.2) else none
    | _, _ => none
  | .anewarray i => match st, (jClsT.getD (jOwn m) []).lookup i, jRefs[σ.1]? with
    | .inl x :: st, some k, some r => if ((k = 1 ∧ r.1 = 15) ∨ (k = 4 ∧ r.1 = 16)) ∧ 0 ≤ x ∧ x.toNatClampNeg = jLen r.1 r.2 then jnx (pc + n) al (jRf r :: st) (σ.1 + 1, ((List.range (jLen r.1 r.2)).map (fun j => (r, j)) ++ σ.2.1, σ.2.2)) else none
    | _, _, _ => none
  | .invokespecial i => match (jMthT.getD (jOwn m) []).lookup i with
    | some 199 => match st with
      | .inr (.inr (some _)) :: st => if n = 3 ∧ st.length ≤ 4 then jnx (pc + 3) al st σ else none
      | _ => none
    | _ => jinv m i n st I
  | .invokevirtual i => match (jMthT.getD (jOwn m) []).lookup i with
    | some 901 => match st with
      | .inr (.inr (some (18, _))) :: st => if n = 3 ∧ st.length ≤ 4 then jnx (pc + 3) al (jI (Int32.ofNat jstr.length) :: st) σ else none
      | _ => none
    | some 902 => match st with
      | .inl i :: .inr (.inr (some (18, _))) :: st => if (n = 3 ∧ st.length ≤ 4) ∧ 0 ≤ i ∧ i.toNatClampNeg < jstr.length then jnx (pc + 3) al (jI (jstr.getD i.toNatClampNeg 0) :: st) σ else none
      | _ => none
    | _ => jinv m i n st I
  | .invokestatic i => match (jMthT.getD (jOwn m) []).lookup i with
    | some 900 => match st with
      | .inl c :: .inl d :: .inr (.inr (some r)) :: .inl s :: .inr (.inr (some q)) :: st => if (r.1 = 12 ∧ q.1 = 12 ∧ n = 3 ∧ st.length ≤ 4) ∧ 0 ≤ s ∧ 0 ≤ d ∧ 0 ≤ c ∧ s.toNatClampNeg + c.toNatClampNeg ≤ jLen 12 q.2 ∧ d.toNatClampNeg + c.toNatClampNeg ≤ jLen 12 r.2 then jnx (pc + 3) al st (σ.1, (σ.2.1, jCp σ.2.2 q.2 r.2 s.toNatClampNeg d.toNatClampNeg c.toNatClampNeg)) else none
      | _ => none
    | some 903 => match st with
      | .inl y :: .inl x :: st => if n = 3 ∧ st.length ≤ 4 then jnx (pc + 3) al (jI (if x < y then y else x) :: st) σ else none
      | _ => none
    | some 904 => match st with
      | .inl y :: .inl x :: st => if n = 3 ∧ st.length ≤ 4 then jnx (pc + 3) al (jI (if y < x then y else x) :: st) σ else none
      | _ => none
    | _ => jinv m i n st I
  | .ireturn => match st with
    | .inl x :: [] => if jnar (jRetT.getD m none) (jI x) then some (.inr (.inr (some (jI x)))) else none
    | _ => none
  | .areturn => match st with
    | .inr (.inr x) :: [] => if jnar (jRetT.getD m none) (.inr (.inr x)) then some (.inr (.inr (some (.inr (.inr x))))) else none
    | _ => none
  | .return_ => match st with
    | [] => if jRetT.getD m none = none then some (.inr (.inr none)) else none
    | _ => none
  | _ => none
def jstep (m pc : Nat) (al : jL) (st : List jV) (σ : jS) : Option jO := match jF m pc with
  | some (I, n) => jexe m pc n al st σ I
  | none => none
/-- f steps and calls at most, d calls deep at most -/
def jrun : Nat → Nat → Nat → jFr → Option (Option jV × jS)
  | 0, _, _, _ => none
  | f + 1, d, m, (pc, (al, (st, σ))) => match jstep m pc al st σ with
    | none => none
    | some (.inl fr) => jrun f d m fr
    | some (.inr (.inl (m', (as, rest)))) => match d with
      | 0 => none
      | d' + 1 => match jrun f d' m' (0, (jent m' as, ([], σ))) with
        | none => none
        | some (v, σ1) => jrun f (d' + 1) m (pc + 3, (al, (v.toList ++ rest, σ1)))
    | some (.inr (.inr v)) => some (v, σ)
def jE (d m pc : Nat) (al : jL) (st : List jV) (σ : jS) (v : Option jV) (σ' : jS) : Prop := ∃ f, jrun f d m (pc, (al, (st, σ))) = some (v, σ')
