/-! ===== one step of the walk, as a function ===== -/
/-- a row of a method's code: its place, the instruction, three numbers, a constant, the method that it calls -/
abbrev qIns : Type := Nat × Instr × (Nat × Nat × Nat) × (Int32 × Int64) × qMH
def iln (i : Instr) (z : Nat) : Nat := match i with
  | .bipush _ => 2 | .ldc _ => 2 | .iload _ => 2 | .lload _ => 2 | .aload _ => 2 | .dload _ => 2 | .istore _ => 2 | .lstore _ => 2 | .astore _ => 2 | .dstore _ => 2 | .newarray _ => 2
  | .sipush _ => 3 | .ldc_w _ => 3 | .ldc2_w _ => 3 | .iinc _ _ => 3 | .ifCond _ _ => 3 | .if_icmp _ _ => 3 | .if_acmp _ _ => 3 | .ifnull _ => 3 | .ifnonnull _ => 3 | .goto _ => 3 | .getfield _ => 3 | .putfield _ => 3 | .getstatic _ => 3 | .new _ => 3 | .anewarray _ => 3 | .invokevirtual _ => 3 | .invokestatic _ => 3 | .invokespecial _ => 3
  | .tableswitch _ _ _ _ => z
  | _ => 1
abbrev qKt : Type := Nat → List (Option Value) → List Value → Nat × Nat → qSt → Prop
/-- the targets of a switch -/
def swc (P : Nat → Prop) (pc : Nat) (a : Int32) : Nat → List Int → Prop
  | _, [] => True
  | k, o :: l => (a = nI k → P ((pc : Int) + o).toNat) ∧ swc P pc a (k + 1) l
def cq (M M' : qMH) (q : Nat × Nat) (F : Nat × Nat → Prop) : Prop := bif (mR M').cells == 0 && (mR M').slots == 0 then F q else (q.1 + (mR M').cells ≤ (mR M).cells ∧ q.2 + (mR M').slots ≤ (mR M).slots) ∧ F (q.1 + (mR M').cells, q.2 + (mR M').slots)
def stp (G : qGX) (M : qMH) (Q : Option Value → qSt → Prop) (K : qKt) (j : qIns) (ls : List (Option Value)) (st : List Value) (q : Nat × Nat) (w : qSt) : Prop :=
  match j with
  | (pc, i, (x, y, _), (ci, cl), M') => match i with
    | .iconst _ => K (pc + 1) ls (.int ci :: st) q w
    | .bipush _ => K (pc + 2) ls (.int ci :: st) q w
    | .sipush _ => K (pc + 3) ls (.int ci :: st) q w
    | .ldc _ => K (pc + 2) ls (.int ci :: st) q w
    | .ldc_w _ => K (pc + 3) ls (.int ci :: st) q w
    | .ldc2_w _ => bif x == 0 then K (pc + 3) ls (.long cl :: st) q w else K (pc + 3) ls (.double cl.toUInt64 :: st) q w
    | .lconst _ => K (pc + 1) ls (.long cl :: st) q w
    | .dconst _ => K (pc + 1) ls (.double FP.dconst0 :: st) q w
    | .aconst_null => K (pc + 1) ls (.null :: st) q w
    | .iload_n _ => (match nth ls x with | some (.int v) => K (pc + 1) ls (.int v :: st) q w | _ => False)
    | .iload _ => (match nth ls x with | some (.int v) => K (pc + 2) ls (.int v :: st) q w | _ => False)
    | .lload_n _ => (match nth ls x with | some (.long v) => K (pc + 1) ls (.long v :: st) q w | _ => False)
    | .lload _ => (match nth ls x with | some (.long v) => K (pc + 2) ls (.long v :: st) q w | _ => False)
    | .dload_n _ => (match nth ls x with | some (.double v) => K (pc + 1) ls (.double v :: st) q w | _ => False)
    | .dload _ => (match nth ls x with | some (.double v) => K (pc + 2) ls (.double v :: st) q w | _ => False)
    | .fload_n _ => (match nth ls x with | some (.float v) => K (pc + 1) ls (.float v :: st) q w | _ => False)
    | .aload_n _ => (match nth ls x with | some (.ref a) => K (pc + 1) ls (.ref a :: st) q w | some .null => K (pc + 1) ls (.null :: st) q w | _ => False)
    | .aload _ => (match nth ls x with | some (.ref a) => K (pc + 2) ls (.ref a :: st) q w | some .null => K (pc + 2) ls (.null :: st) q w | _ => False)
    | .istore_n _ => (match st with | .int v :: r => K (pc + 1) (stL ls x (.int v)) r q w | _ => False)
    | .istore _ => (match st with | .int v :: r => K (pc + 2) (stL ls x (.int v)) r q w | _ => False)
    | .lstore_n _ => (match st with | .long v :: r => K (pc + 1) (stL ls x (.long v)) r q w | _ => False)
    | .lstore _ => (match st with | .long v :: r => K (pc + 2) (stL ls x (.long v)) r q w | _ => False)
    | .dstore _ => (match st with | .double v :: r => K (pc + 2) (stL ls x (.double v)) r q w | _ => False)
    | .astore_n _ => (match st with | .ref a :: r => K (pc + 1) (stL ls x (.ref a)) r q w | .null :: r => K (pc + 1) (stL ls x .null) r q w | _ => False)
    | .astore _ => (match st with | .ref a :: r => K (pc + 2) (stL ls x (.ref a)) r q w | .null :: r => K (pc + 2) (stL ls x .null) r q w | _ => False)
    | .iinc _ _ => (match nth ls x with | some (.int v) => K (pc + 3) (stL ls x (.int (v + ci))) st q w | _ => False)
    | .iadd => (match st with | .int b :: .int a :: r => K (pc + 1) ls (.int (a + b) :: r) q w | _ => False)
    | .isub => (match st with | .int b :: .int a :: r => K (pc + 1) ls (.int (a - b) :: r) q w | _ => False)
    | .imul => (match st with | .int b :: .int a :: r => K (pc + 1) ls (.int (a * b) :: r) q w | _ => False)
    | .iand => (match st with | .int b :: .int a :: r => K (pc + 1) ls (.int (a &&& b) :: r) q w | _ => False)
    | .iushr => (match st with | .int b :: .int a :: r => K (pc + 1) ls (.int (a.toUInt32 >>> (b.toUInt32 &&& Int32.toUInt32 31)).toInt32 :: r) q w | _ => False)
    | .idiv => (match st with | .int b :: .int a :: r => ¬ b = 0 ∧ K (pc + 1) ls (.int (a / b) :: r) q w | _ => False)
    | .irem => (match st with | .int b :: .int a :: r => ¬ b = 0 ∧ K (pc + 1) ls (.int (a - a / b * b) :: r) q w | _ => False)
    | .ladd => (match st with | .long b :: .long a :: r => K (pc + 1) ls (.long (a + b) :: r) q w | _ => False)
    | .lsub => (match st with | .long b :: .long a :: r => K (pc + 1) ls (.long (a - b) :: r) q w | _ => False)
    | .lmul => (match st with | .long b :: .long a :: r => K (pc + 1) ls (.long (a * b) :: r) q w | _ => False)
    | .land => (match st with | .long b :: .long a :: r => K (pc + 1) ls (.long (a &&& b) :: r) q w | _ => False)
    | .lor => (match st with | .long b :: .long a :: r => K (pc + 1) ls (.long (a ||| b) :: r) q w | _ => False)
    | .lxor => (match st with | .long b :: .long a :: r => K (pc + 1) ls (.long (a ^^^ b) :: r) q w | _ => False)
    | .lshl => (match st with | .int b :: .long a :: r => K (pc + 1) ls (.long (a <<< (b.toInt64 &&& 63)) :: r) q w | _ => False)
    | .lushr => (match st with | .int b :: .long a :: r => K (pc + 1) ls (.long (a.toUInt64 >>> (b.toInt64.toUInt64 &&& Int64.toUInt64 63)).toInt64 :: r) q w | _ => False)
    | .ineg => (match st with | .int a :: r => K (pc + 1) ls (.int (-a) :: r) q w | _ => False)
    | .lneg => (match st with | .long a :: r => K (pc + 1) ls (.long (-a) :: r) q w | _ => False)
    | .i2l => (match st with | .int a :: r => K (pc + 1) ls (.long a.toInt64 :: r) q w | _ => False)
    | .i2b => (match st with | .int a :: r => K (pc + 1) ls (.int a.toInt8.toInt32 :: r) q w | _ => False)
    | .i2s => (match st with | .int a :: r => K (pc + 1) ls (.int a.toInt16.toInt32 :: r) q w | _ => False)
    | .i2c => (match st with | .int a :: r => K (pc + 1) ls (.int (a.toUInt32 % 65536).toInt32 :: r) q w | _ => False)
    | .l2i => (match st with | .long a :: r => K (pc + 1) ls (.int a.toInt32 :: r) q w | _ => False)
    | .l2d => (match st with | .long a :: r => K (pc + 1) ls (.double (FP.l2d a) :: r) q w | _ => False)
    | .l2f => (match st with | .long a :: r => K (pc + 1) ls (.float (FP.l2f a) :: r) q w | _ => False)
    | .f2d => (match st with | .float a :: r => ∀ u : UInt64, alike64 u (FP.f2d a) = true → K (pc + 1) ls (.double u :: r) q w | _ => False)
    | .dadd => (match st with | .double b :: .double a :: r => ∀ u : UInt64, alike64 u (FP.dadd a b) = true → K (pc + 1) ls (.double u :: r) q w | _ => False)
    | .lcmp => (match st with | .long b :: .long a :: r => K (pc + 1) ls (.int (lg_cmp a b) :: r) q w | _ => False)
    | .dcmp op => (match st with | .double b :: .double a :: r => K (pc + 1) ls (.int (Op.cmpValue (FP.dcmp a b) op) :: r) q w | _ => False)
    | .fcmp op => (match st with | .float b :: .float a :: r => K (pc + 1) ls (.int (Op.cmpValue (FP.fcmp a b) op) :: r) q w | _ => False)
    | .dup => (match st with | v :: r => bif wide v then False else K (pc + 1) ls (v :: v :: r) q w | _ => False)
    | .dup2 => (match st with | v :: r => bif wide v then K (pc + 1) ls (v :: v :: r) q w else (match r with | u :: r2 => bif wide u then False else K (pc + 1) ls (v :: u :: v :: u :: r2) q w | _ => False) | _ => False)
    | .ifCond .eq _ => (match st with | .int a :: r => (a = 0 → K y ls r q w) ∧ (¬ (a = 0) → K (pc + 3) ls r q w) | _ => False)
    | .ifCond .ne _ => (match st with | .int a :: r => (¬ a = 0 → K y ls r q w) ∧ (a = 0 → K (pc + 3) ls r q w) | _ => False)
    | .ifCond .lt _ => (match st with | .int a :: r => (a < 0 → K y ls r q w) ∧ (¬ (a < 0) → K (pc + 3) ls r q w) | _ => False)
    | .ifCond .ge _ => (match st with | .int a :: r => (0 ≤ a → K y ls r q w) ∧ (¬ (0 ≤ a) → K (pc + 3) ls r q w) | _ => False)
    | .ifCond .gt _ => (match st with | .int a :: r => (0 < a → K y ls r q w) ∧ (¬ (0 < a) → K (pc + 3) ls r q w) | _ => False)
    | .ifCond .le _ => (match st with | .int a :: r => (a ≤ 0 → K y ls r q w) ∧ (¬ (a ≤ 0) → K (pc + 3) ls r q w) | _ => False)
    | .if_icmp .eq _ => (match st with | .int b :: .int a :: r => (a = b → K y ls r q w) ∧ (¬ (a = b) → K (pc + 3) ls r q w) | _ => False)
    | .if_icmp .ne _ => (match st with | .int b :: .int a :: r => (¬ a = b → K y ls r q w) ∧ (a = b → K (pc + 3) ls r q w) | _ => False)
    | .if_icmp .lt _ => (match st with | .int b :: .int a :: r => (a < b → K y ls r q w) ∧ (¬ (a < b) → K (pc + 3) ls r q w) | _ => False)
    | .if_icmp .ge _ => (match st with | .int b :: .int a :: r => (b ≤ a → K y ls r q w) ∧ (¬ (b ≤ a) → K (pc + 3) ls r q w) | _ => False)
    | .if_icmp .gt _ => (match st with | .int b :: .int a :: r => (b < a → K y ls r q w) ∧ (¬ (b < a) → K (pc + 3) ls r q w) | _ => False)
    | .if_icmp .le _ => (match st with | .int b :: .int a :: r => (a ≤ b → K y ls r q w) ∧ (¬ (a ≤ b) → K (pc + 3) ls r q w) | _ => False)
    | .if_acmp .eq _ => (match st with | .ref b :: .ref a :: r => (2 ≤ a ∧ 2 ≤ b) ∧ (a = b → K y ls r q w) ∧ (¬ a = b → K (pc + 3) ls r q w) | _ => False)
    | .if_acmp .ne _ => (match st with | .ref b :: .ref a :: r => (2 ≤ a ∧ 2 ≤ b) ∧ (¬ a = b → K y ls r q w) ∧ (a = b → K (pc + 3) ls r q w) | _ => False)
    | .ifnull _ => (match st with | .ref _ :: r => K (pc + 3) ls r q w | .null :: r => K y ls r q w | _ => False)
    | .ifnonnull _ => (match st with | .ref _ :: r => K y ls r q w | .null :: r => K (pc + 3) ls r q w | _ => False)
    | .goto _ => K y ls st q w
    | .tableswitch d _ hi offs => (match st with | .int a :: r => swc (fun t => K t ls r q w) pc a 0 offs.toList ∧ ((a.toInt < 0 ∨ hi < a.toInt) → K ((pc : Int) + d).toNat ls r q w) | _ => False)
    | .getfield _ => (match st with
      | .ref a :: r => bif mM M then (bif a == 79 then (bif tc 11 y == 1 then K (pc + 3) ls (.long (gJ w 12 y 0) :: r) q w else bif tc 11 y == 2 then K (pc + 3) ls (.ref (80 + mrk y) :: r) q w else K (pc + 3) ls (.int (gI w 12 y 0) :: r) q w) else False)
        else gN w 0 a = x ∧ (bif tc x y == 1 then K (pc + 3) ls (.long (gJ w x y a) :: r) q w else bif tc x y == 2 then (gR w x y a = none → K (pc + 3) ls (.null :: r) q w) ∧ (∀ b, gR w x y a = some b → K (pc + 3) ls (.ref b :: r) q w) else K (pc + 3) ls (.int (gI w x y a) :: r) q w)
      | _ => False)
    | .putfield _ => (match st with
      | .int n :: .ref a :: r => bif mM M then (bif a == 79 && tc 11 y == 0 then K (pc + 3) ls r q (sI w 12 y 0 n) else False)
        else gN w 0 a = x ∧ (bif tc x y == 0 then K (pc + 3) ls r q (sI w x y a n) else bif tc x y == 3 then n &&& 1 = n ∧ K (pc + 3) ls r q (sI w x y a n) else False)
      | .long n :: .ref a :: r => bif mM M then (bif a == 79 && tc 11 y == 1 then K (pc + 3) ls r q (sJ w 12 y 0 n) else False)
        else gN w 0 a = x ∧ (bif tc x y == 1 then K (pc + 3) ls r q (sJ w x y a n) else False)
      | .null :: .ref a :: r => bif mM M then False else gN w 0 a = x ∧ (bif tc x y == 2 then K (pc + 3) ls r q (sR w x y a none) else False)
      | .ref b :: .ref a :: r => bif mM M then False else gN w 0 a = x ∧ (bif tc x y == 2 then K (pc + 3) ls r q (sR w x y a (some b)) else False)
      | _ => False)
    | .getstatic _ => K (pc + 3) ls (.ref 1 :: st) q w
    | .new _ => (q.1 + 1 ≤ (mR M).cells ∧ q.2 + nf x ≤ (mR M).slots) ∧ ∀ n, gN w 2 0 = n → K (pc + 3) ls (.ref n :: st) (q.1 + 1, q.2 + nf x) (nwO w x)
    | .newarray t => (match st with | .int k :: r => (¬ k < 0 ∧ k.toNatClampNeg ≤ 65536) ∧ (q.1 + 1 ≤ (mR M).cells ∧ q.2 + k.toNatClampNeg ≤ (mR M).slots) ∧ ∀ n, gN w 2 0 = n → K (pc + 2) ls (.ref n :: r) (q.1 + 1, q.2 + k.toNatClampNeg) (nwA w (primK t) k.toNatClampNeg) | _ => False)
    | .anewarray _ => (match st with | .int k :: r => (¬ k < 0 ∧ k.toNatClampNeg ≤ 65536) ∧ (q.1 + 1 ≤ (mR M).cells ∧ q.2 + k.toNatClampNeg ≤ (mR M).slots) ∧ ∀ n, gN w 2 0 = n → K (pc + 3) ls (.ref n :: r) (q.1 + 1, q.2 + k.toNatClampNeg) (nwA w x k.toNatClampNeg) | _ => False)
    | .arraylength => (match st with | .ref a :: r => bif mM M then False else (gN w 0 a = 20 ∨ gN w 0 a = 21 ∨ gN w 0 a = 22 ∨ refK (gN w 0 a) = true ∨ a = 0) ∧ K (pc + 1) ls (.int (nI (gN w 1 a)) :: r) q w | _ => False)
    | .iaload => (match st with | .int i :: .ref a :: r => bif mM M then (bif Nat.ble 80 a && Nat.ble a 117 && mty (a - 80) == 0 then vp_in i (mln (a - 80)) ∧ K (pc + 1) ls (.int (gI w 40 (a - 80) i.toNatClampNeg) :: r) q w else False) else (gN w 0 a = 19 ∨ gN w 0 a = 20) ∧ vp_in i (gN w 1 a) ∧ K (pc + 1) ls (.int (gI w 20 a i.toNatClampNeg) :: r) q w | _ => False)
    | .baload => (match st with | .int i :: .ref a :: r => bif mM M then (bif Nat.ble 80 a && Nat.ble a 117 && mty (a - 80) == 3 then vp_in i (mln (a - 80)) ∧ K (pc + 1) ls (.int (gI w 40 (a - 80) i.toNatClampNeg) :: r) q w else False) else gN w 0 a = 22 ∧ vp_in i (gN w 1 a) ∧ K (pc + 1) ls (.int (gI w 20 a i.toNatClampNeg) :: r) q w | _ => False)
    | .laload => (match st with | .int i :: .ref a :: r => bif mM M then (bif Nat.ble 80 a && Nat.ble a 117 && mty (a - 80) == 1 then vp_in i (mln (a - 80)) ∧ K (pc + 1) ls (.long (gJ w 40 (a - 80) i.toNatClampNeg) :: r) q w else False) else gN w 0 a = 21 ∧ vp_in i (gN w 1 a) ∧ K (pc + 1) ls (.long (gJ w 21 a i.toNatClampNeg) :: r) q w | _ => False)
    | .aaload => (match st with | .int i :: .ref a :: r => bif mM M then False else (refK (gN w 0 a) = true ∧ vp_in i (gN w 1 a)) ∧ (gR w 23 a i.toNatClampNeg = none → K (pc + 1) ls (.null :: r) q w) ∧ (∀ b, gR w 23 a i.toNatClampNeg = some b → K (pc + 1) ls (.ref b :: r) q w) | _ => False)
    | .iastore => (match st with | .int n :: .int i :: .ref a :: r => bif mM M then (bif Nat.ble 80 a && Nat.ble a 117 && mty (a - 80) == 0 then vp_in i (mln (a - 80)) ∧ K (pc + 1) ls r q (sI w 40 (a - 80) i.toNatClampNeg n) else False) else gN w 0 a = 20 ∧ vp_in i (gN w 1 a) ∧ K (pc + 1) ls r q (sI w 20 a i.toNatClampNeg n) | _ => False)
    | .bastore => (match st with | .int n :: .int i :: .ref a :: r => n &&& 1 = n ∧ (bif mM M then (bif Nat.ble 80 a && Nat.ble a 117 && mty (a - 80) == 3 then vp_in i (mln (a - 80)) ∧ K (pc + 1) ls r q (sI w 40 (a - 80) i.toNatClampNeg n) else False) else gN w 0 a = 22 ∧ vp_in i (gN w 1 a) ∧ K (pc + 1) ls r q (sI w 20 a i.toNatClampNeg n)) | _ => False)
    | .lastore => (match st with | .long n :: .int i :: .ref a :: r => bif mM M then (bif Nat.ble 80 a && Nat.ble a 117 && mty (a - 80) == 1 then vp_in i (mln (a - 80)) ∧ K (pc + 1) ls r q (sJ w 40 (a - 80) i.toNatClampNeg n) else False) else gN w 0 a = 21 ∧ vp_in i (gN w 1 a) ∧ K (pc + 1) ls r q (sJ w 21 a i.toNatClampNeg n) | _ => False)
    | .aastore => (match st with | .ref b :: .int i :: .ref a :: r => bif mM M then False else (refK (gN w 0 a) = true ∧ gN w 0 b + 23 = gN w 0 a ∧ vp_in i (gN w 1 a)) ∧ K (pc + 1) ls r q (sR w 23 a i.toNatClampNeg (some b)) | _ => False)
    | .invokevirtual _ => (match st.drop (mA M') with
      | .ref a :: r => bif Nat.ble (cats r) 8 then (bif mM M' then (bif mM M then (bif a == 79 then cq M M' q (fun q' => Con G M' (.ref a :: (st.take (mA M')).reverse) w (fun o w' => K (pc + 3) ls (psh o r) q' w')) else False) else (gN w 4 0 = 1 ∧ a = 79) ∧ cq M M' q (fun q' => Con G M' (.ref a :: (st.take (mA M')).reverse) w (fun o w' => K (pc + 3) ls (psh o r) q' w')))
          else gN w 0 a = x ∧ cq M M' q (fun q' => Con G M' (.ref a :: (st.take (mA M')).reverse) w (fun o w' => K (pc + 3) ls (psh o r) q' w'))) else False
      | _ => False)
    | .invokestatic _ => bif Nat.ble x 1 then (bif Nat.ble (mA M') st.length && Nat.ble (cats (st.drop (mA M'))) 8 then cq M M' q (fun q' => Con G M' (st.take (mA M')).reverse w (fun o w' => K (pc + 3) ls (psh o (st.drop (mA M'))) q' w')) else False)
      else bif x == 91 then (match st with | .double b :: r => bif Nat.ble (cats r) 8 then K (pc + 3) ls (.long b.toInt64 :: r) q w else False | _ => False)
      else bif x == 92 then (match st with | .long b :: r => bif Nat.ble (cats r) 8 then vn_snl2d b = false ∧ K (pc + 3) ls (.double b.toUInt64 :: r) q w else False | _ => False)
      else bif x == 93 then (match st with | .float b :: r => bif Nat.ble (cats r) 8 then K (pc + 3) ls (.int b.toInt32 :: r) q w else False | _ => False)
      else (match st with | .int b :: r => bif Nat.ble (cats r) 8 then vn_sni2f b = false ∧ K (pc + 3) ls (.float b.toUInt32 :: r) q w else False | _ => False)
    | .invokespecial _ => bif x == 99 then (match st with | .ref _ :: r => bif Nat.ble (cats r) 8 then K (pc + 3) ls r q w else False | _ => False)
      else (match st.drop (mA M') with
        | .ref a :: r => bif Nat.ble (cats r) 8 then cq M M' q (fun q' => Con G M' (.ref a :: (st.take (mA M')).reverse) w (fun o w' => K (pc + 3) ls (psh o r) q' w')) else False
        | _ => False)
    | .ireturn => (match st with | [.int v] => (match mT M with | some .int => Q (some (.int v)) w | some .boolean => v &&& 1 = v ∧ Q (some (.int v)) w | _ => False) | _ => False)
    | .lreturn => (match st with | [.long v] => (match mT M with | some .long => Q (some (.long v)) w | _ => False) | _ => False)
    | .dreturn => (match st with | [.double v] => (match mT M with | some .double => Q (some (.double v)) w | _ => False) | _ => False)
    | .areturn => (match st with | [.ref a] => (match mT M with | some (.object _) => Q (some (.ref a)) w | _ => False) | [.null] => (match mT M with | some (.object _) => Q (some .null) w | _ => False) | _ => False)
    | .return_ => (match st with | [] => (match mT M with | none => Q none w | _ => False) | _ => False)
    | _ => False
def lkW (z : Nat) (w : Jvm.Cond) : Bool := decide (lw_tbl[z]? = some w)
def rmB (M M' : qMH) : Bool := Nat.ble ((mR M').frames + 1) (mR M).frames && Nat.ble (8 + (mL M' + 11) + (mR M').locals) (mR M).locals
/-- the code has this row at this place, and the tables link it so -/
def insOK (M : qMH) (j : qIns) : Bool :=
  match j with
  | (pc, i, (x, y, z), (ci, cl), M') => decide (decode (mC M) pc = .ok (i, iln i z)) && (match i with
    | .iconst n => Int32.ofInt n == ci
    | .bipush n => (Int8.ofInt n).toInt32 == ci
    | .sipush n => (Int16.ofInt n).toInt32 == ci
    | .ldc n => lkW z (.constant (mY M).cls n ci)
    | .ldc_w n => lkW z (.constant (mY M).cls n ci)
    | .ldc2_w n => bif x == 0 then lkW z (.constantLong (mY M).cls n cl) else lkW z (.constantDouble (mY M).cls n cl.toUInt64)
    | .lconst n => Int64.ofNat n.val == cl
    | .dconst n => n.val == 0
    | .iload_n n => n.val == x
    | .lload_n n => n.val == x
    | .dload_n n => n.val == x
    | .fload_n n => n.val == x
    | .aload_n n => n.val == x
    | .iload n => n == x
    | .lload n => n == x
    | .dload n => n == x
    | .aload n => n == x
    | .istore_n n => n.val == x && Nat.blt x (mL M)
    | .astore_n n => n.val == x && Nat.blt x (mL M)
    | .istore n => n == x && Nat.blt x (mL M)
    | .astore n => n == x && Nat.blt x (mL M)
    | .lstore_n n => n.val == x && Nat.blt (x + 1) (mL M)
    | .lstore n => n == x && Nat.blt (x + 1) (mL M)
    | .dstore n => n == x && Nat.blt (x + 1) (mL M)
    | .iinc n k => n == x && Int32.ofInt k == ci && Nat.blt x (mL M)
    | .ifCond _ o => decide ((pc : Int) + o = (y : Int))
    | .if_icmp _ o => decide ((pc : Int) + o = (y : Int))
    | .if_acmp _ o => decide ((pc : Int) + o = (y : Int))
    | .ifnull o => decide ((pc : Int) + o = (y : Int))
    | .ifnonnull o => decide ((pc : Int) + o = (y : Int))
    | .goto o => decide ((pc : Int) + o = (y : Int))
    | .tableswitch d lo hi offs => decide (lo = 0) && decide (hi + 1 = (offs.size : Int)) && decide (0 ≤ (pc : Int) + d) && offs.toList.all (fun o => decide (0 ≤ (pc : Int) + o)) && Nat.ble offs.size 2000
    | .getfield n => (match vwCl[x]? with | some u => Nat.blt y u.2.2 && (bif mM M then x == 11 else true) && lkW z (.fieldLink (mY M).cls n (u.2.1 y).1 (u.2.1 y).2.1 (u.2.1 y).2.2.1) | none => false)
    | .putfield n => (match vwCl[x]? with | some u => Nat.blt y u.2.2 && (bif mM M then x == 11 else true) && lkW z (.fieldLink (mY M).cls n (u.2.1 y).1 (u.2.1 y).2.1 (u.2.1 y).2.2.1) && (!(u.2.1 y).2.2.2 || (decide ((mY M).name = "<init>") && decide ((u.2.1 y).1 = (mY M).cls))) | none => false)
    | .getstatic n => lkW z (.fieldLink (mY M).cls n RX2 "WIDER" "[I")
    | .new n => (match vwCl[x]? with | some u => lkW z (.classLink (mY M).cls n u.1) | none => false)
    | .newarray t => decide (primK t ≠ 0)
    | .anewarray n => refK x && (match vwCl[x - 23]? with | some u => lkW z (.classLink (mY M).cls n u.1) | none => false)
    | .invokevirtual n => lkW z (.methodLink (mY M).cls n (mY M')) && mK M' == 0 && rmB M M' && decide ((vwCl[bif mM M' then 11 else x]?).map (fun u => u.1) = some (mY M').cls) && Nat.blt x 12
    | .invokestatic n => bif Nat.ble x 1 then (bif x == 0 then lkW z (.methodLink (mY M).cls n (mY M')) else lkW z (.methodLinkNest (mY M).cls n (mY M') "QueryHandles")) && mK M' == 1 && rmB M M' && (!mM M' || mM M)
      else Nat.ble 1 (mR M).frames && Nat.ble 23 (mR M).locals && (bif x == 91 then lkW z (.methodLink (mY M).cls n ⟨"java/lang/Double", "doubleToRawLongBits", "(D)J"⟩) else bif x == 92 then lkW z (.methodLink (mY M).cls n ⟨"java/lang/Double", "longBitsToDouble", "(J)D"⟩) else bif x == 93 then lkW z (.methodLink (mY M).cls n ⟨"java/lang/Float", "floatToRawIntBits", "(F)I"⟩) else lkW z (.methodLink (mY M).cls n ⟨"java/lang/Float", "intBitsToFloat", "(I)F"⟩))
    | .invokespecial n => bif x == 99 then lkW z (.methodLink (mY M).cls n Lib.objectInit) && Nat.ble 1 (mR M).frames && Nat.ble 20 (mR M).locals
      else (bif x == 0 then lkW z (.methodLink (mY M).cls n (mY M')) else lkW z (.methodLinkNest (mY M).cls n (mY M') "QueryHandles")) && mK M' == 2 && rmB M M' && (!mM M' || mM M)
    | _ => true)
theorem lk_of {z : Nat} {w : Jvm.Cond} (h : lkW z w = true) (hg : goodWord w = true) : w ∈ wTG := tg_of (of_decide_eq_true h) hg
theorem nD2L_n : Cond.native ⟨"java/lang/Double", "doubleToRawLongBits", "(D)J"⟩ ∈ wTG := tg_of (z := 1438) (by decide +kernel) (by decide +kernel)
theorem nD2L_s : Cond.static ⟨"java/lang/Double", "doubleToRawLongBits", "(D)J"⟩ ∈ wTG := tg_of (z := 1437) (by decide +kernel) (by decide +kernel)
theorem nL2D_n : Cond.native ⟨"java/lang/Double", "longBitsToDouble", "(J)D"⟩ ∈ wTG := tg_of (z := 1529) (by decide +kernel) (by decide +kernel)
theorem nL2D_s : Cond.static ⟨"java/lang/Double", "longBitsToDouble", "(J)D"⟩ ∈ wTG := tg_of (z := 1528) (by decide +kernel) (by decide +kernel)
theorem nF2I_n : Cond.native ⟨"java/lang/Float", "floatToRawIntBits", "(F)I"⟩ ∈ wTG := tg_of (z := 1422) (by decide +kernel) (by decide +kernel)
theorem nF2I_s : Cond.static ⟨"java/lang/Float", "floatToRawIntBits", "(F)I"⟩ ∈ wTG := tg_of (z := 1421) (by decide +kernel) (by decide +kernel)
theorem nI2F_n : Cond.native ⟨"java/lang/Float", "intBitsToFloat", "(I)F"⟩ ∈ wTG := tg_of (z := 1426) (by decide +kernel) (by decide +kernel)
theorem nI2F_s : Cond.static ⟨"java/lang/Float", "intBitsToFloat", "(I)F"⟩ ∈ wTG := tg_of (z := 1425) (by decide +kernel) (by decide +kernel)
theorem inDouble : Cond.initialized "java/lang/Double" ∈ wTG := tg_of (z := 74) (by decide +kernel) (by decide +kernel)
theorem inFloat : Cond.initialized "java/lang/Float" ∈ wTG := tg_of (z := 73) (by decide +kernel) (by decide +kernel)
theorem oi_i : Cond.instanceMethod Lib.objectInit ∈ wTG := tg_of (z := 84) (by decide +kernel) (by decide +kernel)
theorem oi_c : Cond.code Lib.objectInit ⟨#[0xb1]⟩ 1 none ∈ wTG := tg_of (z := 85) (by decide +kernel) (by decide +kernel)
theorem ac_int : Cond.arrayClass .int ∈ wTG := tg_of (z := 283) (by decide +kernel) (by decide +kernel)
theorem ac_long : Cond.arrayClass .long ∈ wTG := tg_of (z := 613) (by decide +kernel) (by decide +kernel)
theorem ac_boolean : Cond.arrayClass .boolean ∈ wTG := tg_of (z := 945) (by decide +kernel) (by decide +kernel)
def instP : List Nat := [844, 751, 438, 918, 246, 582, 227, 94, 100, 87, 79, 1027]
def initP : List Nat := [76, 75, 69, 77, 66, 70, 65, 63, 64, 62, 61, 67]
theorem inst_all : ∀ c : Fin 12, (match vwCl[c.val]? with | some u => decide (lw_tbl[instP.getD c.val 0]? = some (.instantiable u.1 (nf c.val))) && decide (lw_tbl[initP.getD c.val 0]? = some (.initialized u.1)) | none => false) = true := by decide +kernel
theorem inst_ok {x : Nat} {u : vw_C} (h : vwCl[x]? = some u) : Cond.instantiable u.1 (nf x) ∈ wTG ∧ Cond.initialized u.1 ∈ wTG := by
  have h1 := inst_all ⟨x, vw_lt h⟩
  simp only [h, Bool.and_eq_true, decide_eq_true_eq] at h1
  exact ⟨tg_of h1.1 (by rfl), tg_of h1.2 (by rfl)⟩
