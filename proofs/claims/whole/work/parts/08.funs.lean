def fX7_isTag (p1 : Int32) : Int32 := (if p1 < 0 then 0 else (if 10 ≤ p1 then 0 else 1))
theorem z01_X7_isTag (p1 : Int32) : fX7_isTag p1 = 0 ∨ fX7_isTag p1 = 1 := by
  unfold fX7_isTag
  (repeat' split) <;> first | exact Or.inl rfl | exact Or.inr rfl

def fX7_fieldsOf (p1 : Int32) (p2 : Int32) : Int32 := (if p1 = 1 then 2 else (if p1 = 2 then p2 else (if p1 = 3 then 1 else (if p1 = 4 then 1 else (if p1 = 5 then p2 else (if p1 = 6 then 2 else 0))))))

def fX7_bit (p1 : Int32) : Int32 := (if p1 < 0 then 0 else (if 24 ≤ p1 then 0 else (1 <<< (p1 &&& 31))))

def fX7_has (p1 : Int32) (p2 : Int32) : Int32 := (if p2 < 0 then 0 else (if 24 ≤ p2 then 0 else (if ((p1 >>> (p2 &&& 31)) &&& 1) = 0 then 0 else 1)))
theorem z01_X7_has (p1 : Int32) (p2 : Int32) : fX7_has p1 p2 = 0 ∨ fX7_has p1 p2 = 1 := by
  unfold fX7_has
  (repeat' split) <;> first | exact Or.inl rfl | exact Or.inr rfl

def fX0_widen (b : Nat) (p1 : Int32) (s0 : zkS) : Option (zkS) := (if (fX7_has (s0.1 b 1) p1) = 0 then some s0 else zrd s0 (b + 3) 24 p1 (fun (v2 : Int32) => (if 6 ≤ v2 then some s0 else zrd s0 (b + 3) 24 p1 (fun (v3 : Int32) => zwr s0 (b + 3) 24 p1 (v3 + 1) (fun (s4 : zkS) => zrd s4 (b + 3) 24 p1 (fun (v5 : Int32) => zwr s4 (b + 4) 144 (((p1 * 6) + v5) - 1) (-5) (fun (s6 : zkS) => some s6)))))))

def fX0_add_L73 (n : Nat) (b : Nat) (x3 : Int32) (x4 : Int32) (x5 : Int32) (s7 : zkS) (K73 : zkS → Option (Int32 × zkS)) : Option (Int32 × zkS) := match n with
  | 0 => none
  | n + 1 => (if x3 ≤ x5 then K73 s7 else zb1 (fX0_widen b x4 s7) (fun (s8 : zkS) => zlt (x5 + 1) (fun (v9 : Int32) => fX0_add_L73 n b x3 x4 v9 s8 K73)))
def fX0_add (b : Nat) (p1 : Int32) (p2 : Int32) (p3 : Int32) (s0 : zkS) : Option (Int32 × zkS) := (if (s0.1 b 0) < 0 then some ((-5), s0) else (if (s0.1 b 0) < 24 then zpi s0 b 0 ((s0.1 b 0) + 1) (fun (s1 : zkS) => zwr s1 (b + 1) 24 (s0.1 b 0) p1 (fun (s2 : zkS) => zwr s2 (b + 2) 24 (s0.1 b 0) p2 (fun (s3 : zkS) => zpi s3 b 1 ((s3.1 b 1) ||| (fX7_bit (s0.1 b 0))) (fun (s5 : zkS) => zwr s5 (b + 3) 24 (s0.1 b 0) 0 (fun (s6 : zkS) => fX0_add_L73 zFU b p3 (s0.1 b 0) 0 s6 (fun (s10 : zkS) => some ((s0.1 b 0), s10))))))) else some ((-5), s0)))

def fX7_cell (p1 : Int32) (p2 : Int32) (p3 : Int32) (s0 : zkS) : Option (Int32 × zkS) := (if p1 < 0 then some ((-1), s0) else (if p1 ≤ 6 then (if (fX7_isTag p2) = 0 then some ((-2), s0) else (if (fX7_fieldsOf p1 p3) < 0 then some ((-2), s0) else (if (fX7_fieldsOf p1 p3) ≤ 6 then (if (s0.1 8 0) = 0 then (if (s0.1 2 0) < 24 then zpi s0 8 1 0 (fun (s4 : zkS) => zb2 (fX0_add 2 p1 p2 (fX7_fieldsOf p1 p3) s4) (fun (v6 : Int32) (s7 : zkS) => some (v6, s7))) else some ((-4), s0)) else some ((-3), s0)) else some ((-2), s0)))) else some ((-1), s0)))

def fX0_isThere (b : Nat) (p1 : Int32) (s0 : zkS) : Int32 := (fX7_has (s0.1 b 1) p1)
theorem z01_X0_isThere (b : Nat) (p1 : Int32) (s0 : zkS) : fX0_isThere b p1 s0 = 0 ∨ fX0_isThere b p1 s0 = 1 := by
  unfold fX0_isThere
  exact z01_X7_has _ _

def fX0_layoutOf (b : Nat) (p1 : Int32) (s0 : zkS) : Option (Int32) := (if (fX0_isThere b p1 s0) = 0 then some (-1) else zrd s0 (b + 1) 24 p1 (fun (v2 : Int32) => some v2))

def fX0_tagOf (b : Nat) (p1 : Int32) (s0 : zkS) : Option (Int32) := (if (fX0_isThere b p1 s0) = 0 then some (-1) else zrd s0 (b + 2) 24 p1 (fun (v2 : Int32) => some v2))

def fX0_sizeOf (b : Nat) (p1 : Int32) (s0 : zkS) : Option (Int32) := (if (fX7_has (s0.1 b 1) p1) = 0 then some 0 else zrd s0 (b + 3) 24 p1 (fun (v2 : Int32) => some v2))

def fX7_asNumber (p1 : Int32) : Int32 := (if p1 = 0 then 0 else 1)

def fX2_countOf (b : Nat) (p1 : Int32) (s0 : zkS) : Option (Int32) := (if (fX7_bit p1) = 0 then some 0 else zrd s0 (b + 2) 24 p1 (fun (v2 : Int32) => some v2))

def fX0_isField (b : Nat) (p1 : Int32) (p2 : Int32) (s0 : zkS) : Option (Int32) := zjn (fun (v2 : Int32) => (if v2 = 0 then some 0 else (if p2 < 0 then some 0 else zrd s0 (b + 3) 24 p1 (fun (v3 : Int32) => (if v3 ≤ p2 then some 0 else some 1))))) (fun (J1 : Int32 → Option (Int32)) => zjn (fun (u5 : Unit) => J1 0) (fun (J4 : Unit → Option (Int32)) => (if p1 < 0 then J4 () else (if 24 ≤ p1 then J4 () else (if (((s0.1 b 1) >>> (p1 &&& 31)) &&& 1) = 0 then J4 () else J1 1)))))

def fX0_heldBy (b : Nat) (p1 : Int32) (p2 : Int32) (s0 : zkS) : Option (Int32) := zb1 (fX0_isField b p1 p2 s0) (fun (v1 : Int32) => (if v1 = 0 then some (-5) else zrd s0 (b + 4) 144 ((p1 * 6) + p2) (fun (v2 : Int32) => some v2)))

def fX0_holders_L13 (n : Nat) (b : Nat) (s0 : zkS) (x1 : Int32) (x3 : Int32) (x2 : Int32) (x4 : Int32) (K13 : Int32 → Option (Int32)) : Option (Int32) := match n with
  | 0 => none
  | n + 1 => zb1 (fX0_sizeOf b x3 s0) (fun (v1 : Int32) => (if v1 ≤ x4 then K13 x2 else zb1 (fX0_heldBy b x3 x4 s0) (fun (v2 : Int32) => (if v2 = x1 then zlt (x2 + (fX7_asNumber 1)) (fun (v4 : Int32) => zlt (x4 + 1) (fun (v5 : Int32) => fX0_holders_L13 n b s0 x1 x3 v4 v5 K13)) else zlt (x2 + (fX7_asNumber 0)) (fun (v7 : Int32) => zlt (x4 + 1) (fun (v8 : Int32) => fX0_holders_L13 n b s0 x1 x3 v7 v8 K13))))))
def fX0_holders_L4 (n : Nat) (b : Nat) (s0 : zkS) (x1 : Int32) (x2 : Int32) (x3 : Int32) (K4 : Int32 → Option (Int32)) : Option (Int32) := match n with
  | 0 => none
  | n + 1 => (if 24 ≤ x3 then K4 x2 else fX0_holders_L13 zFU b s0 x1 x3 x2 0 (fun (x9 : Int32) => zlt (x3 + 1) (fun (v10 : Int32) => fX0_holders_L4 n b s0 x1 x9 v10 K4)))
def fX0_holders (b : Nat) (p1 : Int32) (s0 : zkS) : Option (Int32) := fX0_holders_L4 zFU b s0 p1 0 0 (fun (x11 : Int32) => some x11)

def fX7_bitsFor_L2 (n : Nat) (x0 : Int32) (x1 : Int32) (K2 : Int32 → Option (Int32)) : Option (Int32) := match n with
  | 0 => none
  | n + 1 => (if 6 ≤ x1 then K2 x1 else (if x0 ≤ (1 <<< (x1 &&& 31)) then K2 x1 else zlt (x1 + 1) (fun (v1 : Int32) => fX7_bitsFor_L2 n x0 v1 K2)))
def fX7_bitsFor (p1 : Int32) : Option (Int32) := fX7_bitsFor_L2 zFU p1 0 (fun (x2 : Int32) => some (1 + x2))

def fX0_heldByRoots_L4 (n : Nat) (b : Nat) (s0 : zkS) (x1 : Int32) (x2 : Int32) (K4 : Int32 → Option (Int32)) : Option (Int32) := match n with
  | 0 => none
  | n + 1 => (if 4 ≤ x2 then K4 x1 else zrd s0 (b + 5) 4 x2 (fun (v1 : Int32) => zlt (x1 ||| (fX7_bit v1)) (fun (v3 : Int32) => zlt (x2 + 1) (fun (v4 : Int32) => fX0_heldByRoots_L4 n b s0 v3 v4 K4))))
def fX0_heldByRoots (b : Nat) (s0 : zkS) : Option (Int32) := fX0_heldByRoots_L4 zFU b s0 0 0 (fun (x5 : Int32) => some x5)

def fX7_isFollowed (p1 : Int32) (p2 : Int32) (p3 : Int32) : Int32 := (if p1 = 4 then 0 else (if p1 = 5 then (if (p3 - p3 / 2 * 2) = 0 then 0 else 1) else (if p1 = 6 then (if p3 = 1 then (if (p2 - p2 / 2 * 2) = 0 then 0 else 1) else 1) else 1)))
theorem z01_X7_isFollowed (p1 : Int32) (p2 : Int32) (p3 : Int32) : fX7_isFollowed p1 p2 p3 = 0 ∨ fX7_isFollowed p1 p2 p3 = 1 := by
  unfold fX7_isFollowed
  (repeat' split) <;> first | exact Or.inl rfl | exact Or.inr rfl

def fX0_leadsTo (b : Nat) (p1 : Int32) (p2 : Int32) (s0 : zkS) : Option (Int32) := zb1 (fX0_isField b p1 p2 s0) (fun (v1 : Int32) => (if v1 = 0 then some (-5) else zrd s0 (b + 1) 24 p1 (fun (v2 : Int32) => zrd s0 (b + 2) 24 p1 (fun (v3 : Int32) => (if (fX7_isFollowed v2 v3 p2) = 0 then some (-5) else zrd s0 (b + 4) 144 ((p1 * 6) + p2) (fun (v5 : Int32) => some v5))))))

def fX0_linksOf_L5 (n : Nat) (b : Nat) (s0 : zkS) (x1 : Int32) (x2 : Int32) (x3 : Int32) (x4 : Int32) (K5 : Int32 → Option (Int32)) : Option (Int32) := match n with
  | 0 => none
  | n + 1 => zb1 (fX0_sizeOf b x1 s0) (fun (v1 : Int32) => (if v1 ≤ x4 then K5 x3 else (if x4 = x2 then zlt (x4 + 1) (fun (v2 : Int32) => fX0_linksOf_L5 n b s0 x1 x2 x3 v2 K5) else zb1 (fX0_leadsTo b x1 x4 s0) (fun (v3 : Int32) => zlt (x3 ||| (fX7_bit v3)) (fun (v5 : Int32) => zlt (x4 + 1) (fun (v6 : Int32) => fX0_linksOf_L5 n b s0 x1 x2 v5 v6 K5))))))
def fX0_linksOf (b : Nat) (p1 : Int32) (p2 : Int32) (s0 : zkS) : Option (Int32) := fX0_linksOf_L5 zFU b s0 p1 p2 0 0 (fun (x7 : Int32) => some x7)

def fX1_readFrom_L10 (n : Nat) (o1 : Nat) (x2 : Int32) (s3 : zkS) (K10 : zkS → Option (zkS)) : Option (zkS) := match n with
  | 0 => none
  | n + 1 => (if 24 ≤ x2 then K10 s3 else zb1 (fX0_linksOf o1 x2 (-1) s3) (fun (v4 : Int32) => zwr s3 43 24 x2 v4 (fun (s5 : zkS) => zlt (x2 + 1) (fun (v6 : Int32) => fX1_readFrom_L10 n o1 v6 s5 K10))))
def fX1_readFrom (o1 : Nat) (s0 : zkS) : Option (zkS) := zb1 (fX0_heldByRoots o1 s0) (fun (v1 : Int32) => zpi s0 42 1 v1 (fun (s2 : zkS) => fX1_readFrom_L10 zFU o1 0 s2 (fun (s7 : zkS) => some s7)))

def fX1_farOf_L29 (n : Nat) (s0 : zkS) (x4 : Int32) (x2 : Int32) (x5 : Int32) (K29 : Int32 → Option (Int32)) : Option (Int32) := match n with
  | 0 => none
  | n + 1 => (if 24 ≤ x5 then K29 x2 else (if (fX7_has x4 x5) = 0 then zlt (x2 ||| 0) (fun (v3 : Int32) => zlt (x5 + 1) (fun (v4 : Int32) => fX1_farOf_L29 n s0 x4 v3 v4 K29)) else zrd s0 43 24 x5 (fun (v5 : Int32) => zlt (x2 ||| v5) (fun (v6 : Int32) => zlt (x5 + 1) (fun (v7 : Int32) => fX1_farOf_L29 n s0 x4 v6 v7 K29)))))
def fX1_farOf_L7 (n : Nat) (s0 : zkS) (x1 : Int32) (x2 : Int32) (x3 : Int32) (K7 : Unit → Option (Int32)) : Option (Int32) := match n with
  | 0 => none
  | n + 1 => (if 24 ≤ x3 then K7 () else (if (fX7_has x2 x1) = 0 then fX1_farOf_L29 zFU s0 x2 x2 0 (fun (x8 : Int32) => zlt (x3 + 1) (fun (v9 : Int32) => fX1_farOf_L7 n s0 x1 x8 v9 K7)) else some x3))
def fX1_farOf (p1 : Int32) (s0 : zkS) : Option (Int32) := fX1_farOf_L7 zFU s0 p1 (s0.1 42 1) 0 (fun (_ : Unit) => some (-5))

def fJ6_bitCount_0f7a4 (p1 : Int32) : Int32 := zlt (p1 - ((((p1).toUInt32 >>> ((1 : Int32).toUInt32 &&& Int32.toUInt32 31)).toInt32) &&& 1431655765)) (fun (v1 : Int32) => zlt ((v1 &&& 858993459) + ((((v1).toUInt32 >>> ((2 : Int32).toUInt32 &&& Int32.toUInt32 31)).toInt32) &&& 858993459)) (fun (v2 : Int32) => zlt ((v2 + (((v2).toUInt32 >>> ((4 : Int32).toUInt32 &&& Int32.toUInt32 31)).toInt32)) &&& 252645135) (fun (v3 : Int32) => zlt (v3 + (((v3).toUInt32 >>> ((8 : Int32).toUInt32 &&& Int32.toUInt32 31)).toInt32)) (fun (v4 : Int32) => zlt (v4 + (((v4).toUInt32 >>> ((16 : Int32).toUInt32 &&& Int32.toUInt32 31)).toInt32)) (fun (v5 : Int32) => (v5 &&& 63))))))

def fX7_firstOf (p1 : Int32) : Int32 := (fJ6_bitCount_0f7a4 ((p1 &&& (-p1)) - 1))

def fX1_spread_L12 (n : Nat) (s0 : zkS) (x2 : Int32) (x3 : Int32) (x4 : Int32) (x5 : Int32) (K12 : Int32 → Option (Int32)) : Option (Int32) := match n with
  | 0 => none
  | n + 1 => (if 24 ≤ x5 then K12 x3 else (if x4 = 0 then K12 x3 else zlt (fX7_firstOf x4) (fun (v3 : Int32) => zlt (x4 &&& ((fX7_bit v3) ^^^ (-1))) (fun (v5 : Int32) => zjn (fun (v8 : Int32) => zlt (x3 ||| v8) (fun (v9 : Int32) => zlt (v5 ||| v8) (fun (v10 : Int32) => zlt (x5 + 1) (fun (v11 : Int32) => fX1_spread_L12 n s0 x2 v9 v10 v11 K12)))) (fun (J7 : Int32 → Option (Int32)) => (if (fX7_bit v3) = 0 then J7 0 else zrd s0 43 24 v3 (fun (v12 : Int32) => J7 ((v12 &&& (x3 ^^^ (-1))) &&& (x2 ^^^ (-1))))))))))
def fX1_spread (p1 : Int32) (p2 : Int32) (s0 : zkS) : Option (Int32) := zlt (p1 &&& (p2 ^^^ (-1))) (fun (v1 : Int32) => fX1_spread_L12 zFU s0 p2 v1 v1 0 (fun (x13 : Int32) => some x13))

def fX1_reached (s0 : zkS) : Option (Int32) := zb1 (fX1_spread (s0.1 42 1) 0 s0) (fun (v1 : Int32) => some v1)

def fX1_keptBy (p1 : Int32) (s0 : zkS) : Option (Int32) := zb1 (fX1_reached s0) (fun (v1 : Int32) => (if (fX7_has v1 p1) = 0 then some 0 else zb1 (fX1_spread (s0.1 42 1) (fX7_bit p1) s0) (fun (v4 : Int32) => some (v1 &&& (v4 ^^^ (-1))))))

def fX1_reachedWithout (o1 : Nat) (p2 : Int32) (p3 : Int32) (s0 : zkS) : Option (Int32 × zkS) := (if (fX7_bit p2) = 0 then zb1 (fX1_spread (s0.1 42 1) 0 s0) (fun (v2 : Int32) => some (v2, s0)) else zrd s0 43 24 p2 (fun (v3 : Int32) => zb1 (fX0_linksOf o1 p2 p3 s0) (fun (v4 : Int32) => zwr s0 43 24 p2 v4 (fun (s5 : zkS) => zb1 (fX1_spread (s5.1 42 1) 0 s5) (fun (v6 : Int32) => zwr s5 43 24 p2 v3 (fun (s7 : zkS) => some (v6, s7)))))))

def fX1_cutOf_L29 (n : Nat) (o1 : Nat) (x2 : Int32) (x3 : Int32) (x4 : Int32) (x5 : Int32) (s4 : zkS) (K29 : zkS → Option (Int32 × zkS)) : Option (Int32 × zkS) := match n with
  | 0 => none
  | n + 1 => zb1 (fX0_sizeOf o1 x4 s4) (fun (v5 : Int32) => (if v5 ≤ x5 then K29 s4 else (if (fX7_has x3 x4) = 0 then zlt (x5 + 1) (fun (v7 : Int32) => fX1_cutOf_L29 n o1 x2 x3 x4 v7 s4 K29) else zb2 (fX1_reachedWithout o1 x4 x5 s4) (fun (v8 : Int32) (s9 : zkS) => (if (fX7_has v8 x2) = 0 then some (((10 * x4) + x5), s9) else zlt (x5 + 1) (fun (v11 : Int32) => fX1_cutOf_L29 n o1 x2 x3 x4 v11 s9 K29))))))
def fX1_cutOf_L19 (n : Nat) (o1 : Nat) (x2 : Int32) (x3 : Int32) (x4 : Int32) (s3 : zkS) (K19 : zkS → Option (Int32 × zkS)) : Option (Int32 × zkS) := match n with
  | 0 => none
  | n + 1 => (if 24 ≤ x4 then K19 s3 else fX1_cutOf_L29 zFU o1 x2 x3 x4 0 s3 (fun (s12 : zkS) => zlt (x4 + 1) (fun (v13 : Int32) => fX1_cutOf_L19 n o1 x2 x3 v13 s12 K19)))
def fX1_cutOf (o1 : Nat) (p2 : Int32) (s0 : zkS) : Option (Int32 × zkS) := zb1 (fX1_reached s0) (fun (v1 : Int32) => (if (fX7_has v1 p2) = 0 then some ((-5), s0) else fX1_cutOf_L19 zFU o1 p2 v1 0 s0 (fun (s14 : zkS) => some ((-5), s14))))

def fX7_wayTo (p1 : Int32) (p2 : Int32) (s0 : zkS) : Option (Int32 × zkS) := zb1 (fX1_readFrom 2 s0) (fun (s1 : zkS) => (if p2 = 8 then zb1 (fX1_farOf p1 s1) (fun (v2 : Int32) => some (v2, s1)) else (if p2 = 9 then zb1 (fX1_spread (fX7_bit p1) 0 s1) (fun (v4 : Int32) => some (v4, s1)) else (if p2 = 10 then zb1 (fX1_keptBy p1 s1) (fun (v5 : Int32) => some (v5, s1)) else (if p2 = 11 then zb2 (fX1_cutOf 2 p1 s1) (fun (v6 : Int32) (s7 : zkS) => some (v6, s7)) else some ((-1), s1))))))

def fX7_of (p1 : Int32) (p2 : Int32) (s0 : zkS) : Option (Int32 × zkS) := (if (fX0_isThere 2 p1 s0) = 0 then some ((-1), s0) else (if p2 = 0 then zb1 (fX0_layoutOf 2 p1 s0) (fun (v2 : Int32) => some (v2, s0)) else (if p2 = 1 then zb1 (fX0_tagOf 2 p1 s0) (fun (v3 : Int32) => some (v3, s0)) else (if p2 = 2 then zb1 (fX0_sizeOf 2 p1 s0) (fun (v4 : Int32) => some (v4, s0)) else (if p2 = 3 then some ((fX7_asNumber (fX7_has (s0.1 8 2) p1)), s0) else (if p2 = 4 then zb1 (fX2_countOf 8 p1 s0) (fun (v7 : Int32) => some (v7, s0)) else (if p2 = 5 then some ((fX7_asNumber (fX7_has (s0.1 8 3) p1)), s0) else (if p2 = 6 then some ((fX7_asNumber (fX7_has (s0.1 2 2) p1)), s0) else (if p2 = 7 then zb1 (fX0_holders 2 p1 s0) (fun (v12 : Int32) => some (v12, s0)) else (if p2 = 8 then zb2 (fX7_wayTo p1 p2 s0) (fun (v13 : Int32) (s14 : zkS) => some (v13, s14)) else (if p2 = 9 then zb2 (fX7_wayTo p1 p2 s0) (fun (v15 : Int32) (s16 : zkS) => some (v15, s16)) else (if p2 = 10 then zb2 (fX7_wayTo p1 p2 s0) (fun (v17 : Int32) (s18 : zkS) => some (v17, s18)) else (if p2 = 11 then zb2 (fX7_wayTo p1 p2 s0) (fun (v19 : Int32) (s20 : zkS) => some (v19, s20)) else (if p2 = 12 then zb1 (fX0_sizeOf 2 p1 s0) (fun (v21 : Int32) => zb1 (fX7_bitsFor v21) (fun (v22 : Int32) => some (v22, s0))) else zb2 (fX7_wayTo p1 p2 s0) (fun (v23 : Int32) (s24 : zkS) => some (v23, s24))))))))))))))))

def fX7_field (p1 : Int32) (p2 : Int32) (s0 : zkS) : Option (Int32) := zb1 (fX0_isField 2 p1 p2 s0) (fun (v1 : Int32) => (if v1 = 0 then some (-1) else zb1 (fX0_heldBy 2 p1 p2 s0) (fun (v2 : Int32) => some v2)))

def fX2_placeOf_L2 (n : Nat) (b : Nat) (s0 : zkS) (x1 : Int32) (x2 : Int32) (K2 : Unit → Option (Int32)) : Option (Int32) := match n with
  | 0 => none
  | n + 1 => (if (s0.1 b 5) ≤ x2 then K2 () else (if 24 ≤ x2 then K2 () else zrd s0 (b + 1) 24 x2 (fun (v1 : Int32) => (if v1 = x1 then some x2 else zlt (x2 + 1) (fun (v2 : Int32) => fX2_placeOf_L2 n b s0 x1 v2 K2)))))
def fX2_placeOf (b : Nat) (p1 : Int32) (s0 : zkS) : Option (Int32) := fX2_placeOf_L2 zFU b s0 p1 0 (fun (_ : Unit) => some (-1))

def fX2_turnedAt (b : Nat) (p1 : Int32) (s0 : zkS) : Int32 := (if p1 < 0 then 0 else (if p1 < (s0.1 b 7) then 0 else (if (s0.1 b 5) ≤ p1 then 0 else (if 24 ≤ p1 then 0 else 1))))
theorem z01_X2_turnedAt (b : Nat) (p1 : Int32) (s0 : zkS) : fX2_turnedAt b p1 s0 = 0 ∨ fX2_turnedAt b p1 s0 = 1 := by
  unfold fX2_turnedAt
  (repeat' split) <;> first | exact Or.inl rfl | exact Or.inr rfl

def fX2_hasTurned (b : Nat) (p1 : Int32) (s0 : zkS) : Option (Int32) := zb1 (fX2_placeOf b p1 s0) (fun (v1 : Int32) => some (fX2_turnedAt b v1 s0))

def fX2_isTurned (b : Nat) (p1 : Int32) (p2 : Int32) (s0 : zkS) : Option (Int32) := zb1 (fX2_hasTurned b p1 s0) (fun (v1 : Int32) => (if v1 = 0 then some 0 else zb1 (fX2_countOf b p1 s0) (fun (v2 : Int32) => (if v2 = p2 then some 1 else some 0))))

def fX2_backFrom (b : Nat) (p1 : Int32) (s0 : zkS) : Option (Int32) := zb1 (fX2_placeOf b p1 s0) (fun (v1 : Int32) => (if (fX2_turnedAt b (v1 - 1) s0) = 0 then some (-5) else zrd s0 (b + 1) 24 (v1 - 1) (fun (v3 : Int32) => some v3)))

def fX7_raw (p1 : Int32) (p2 : Int32) (s0 : zkS) : Option (Int32) := zb1 (fX0_isField 2 p1 p2 s0) (fun (v1 : Int32) => (if v1 = 0 then some (-1) else zb1 (fX2_isTurned 8 p1 p2 s0) (fun (v2 : Int32) => (if v2 = 0 then zb1 (fX0_heldBy 2 p1 p2 s0) (fun (v3 : Int32) => some v3) else zb1 (fX2_backFrom 8 p1 s0) (fun (v4 : Int32) => some v4)))))

def fX0_isThereOrNothing (b : Nat) (p1 : Int32) (s0 : zkS) : Int32 := (if p1 = (-1) then 1 else (if (fX0_isThere b p1 s0) = 0 then 0 else 1))
theorem z01_X0_isThereOrNothing (b : Nat) (p1 : Int32) (s0 : zkS) : fX0_isThereOrNothing b p1 s0 = 0 ∨ fX0_isThereOrNothing b p1 s0 = 1 := by
  unfold fX0_isThereOrNothing
  (repeat' split) <;> first | exact Or.inl rfl | exact Or.inr rfl

def fX7_orEmpty (p1 : Int32) : Int32 := (if p1 = (-1) then (-5) else p1)

def fX0_putInto (b : Nat) (p1 : Int32) (p2 : Int32) (p3 : Int32) (s0 : zkS) : Option (zkS) := zb1 (fX0_isField b p1 p2 s0) (fun (v1 : Int32) => (if v1 = 0 then some s0 else zwr s0 (b + 4) 144 ((p1 * 6) + p2) p3 (fun (s2 : zkS) => some s2)))

def fX7_hold (p1 : Int32) (p2 : Int32) (p3 : Int32) (s0 : zkS) : Option (Int32 × zkS) := zb1 (fX0_isField 2 p1 p2 s0) (fun (v1 : Int32) => (if v1 = 0 then some ((-1), s0) else (if (fX0_isThereOrNothing 2 p3 s0) = 0 then some ((-1), s0) else (if (s0.1 8 0) = 0 then zb1 (fX0_heldBy 2 p1 p2 s0) (fun (v3 : Int32) => zb1 (fX0_putInto 2 p1 p2 (fX7_orEmpty p3) s0) (fun (s5 : zkS) => zpi s5 8 1 0 (fun (s6 : zkS) => some (v3, s6)))) else some ((-3), s0)))))

def fX0_retag (b : Nat) (p1 : Int32) (p2 : Int32) (s0 : zkS) : Option (zkS) := (if (fX0_isThere b p1 s0) = 0 then some s0 else zwr s0 (b + 2) 24 p1 p2 (fun (s2 : zkS) => some s2))

def fX7_tag (p1 : Int32) (p2 : Int32) (s0 : zkS) : Option (Int32 × zkS) := (if (fX0_isThere 2 p1 s0) = 0 then some ((-1), s0) else (if (fX7_isTag p2) = 0 then some ((-2), s0) else (if (s0.1 8 0) = 0 then zb1 (fX0_tagOf 2 p1 s0) (fun (v3 : Int32) => zb1 (fX0_retag 2 p1 p2 s0) (fun (s4 : zkS) => zpi s4 8 1 0 (fun (s5 : zkS) => some (v3, s5)))) else some ((-3), s0))))

def fX7_isRoot (p1 : Int32) : Int32 := (if p1 < 0 then 0 else (if 4 ≤ p1 then 0 else 1))
theorem z01_X7_isRoot (p1 : Int32) : fX7_isRoot p1 = 0 ∨ fX7_isRoot p1 = 1 := by
  unfold fX7_isRoot
  (repeat' split) <;> first | exact Or.inl rfl | exact Or.inr rfl

def fX0_heldByRoot (b : Nat) (p1 : Int32) (s0 : zkS) : Option (Int32) := (if (fX7_isRoot p1) = 0 then some (-5) else zrd s0 (b + 5) 4 p1 (fun (v2 : Int32) => some v2))

def fX0_putIntoRoot (b : Nat) (p1 : Int32) (p2 : Int32) (s0 : zkS) : Option (zkS) := (if (fX7_isRoot p1) = 0 then some s0 else zwr s0 (b + 5) 4 p1 p2 (fun (s2 : zkS) => some s2))

def fX7_root (p1 : Int32) (p2 : Int32) (s0 : zkS) : Option (Int32 × zkS) := (if (fX7_isRoot p1) = 0 then some ((-1), s0) else (if (fX0_isThereOrNothing 2 p2 s0) = 0 then some ((-1), s0) else (if (s0.1 8 0) = 0 then zb1 (fX0_heldByRoot 2 p1 s0) (fun (v3 : Int32) => zb1 (fX0_putIntoRoot 2 p1 (fX7_orEmpty p2) s0) (fun (s5 : zkS) => zpi s5 8 1 0 (fun (s6 : zkS) => some (v3, s6)))) else some ((-3), s0))))

def fX7_pin (p1 : Int32) (p2 : Int32) (s0 : zkS) : Option (Int32 × zkS) := (if (fX0_isThere 2 p1 s0) = 0 then some ((-1), s0) else zb1 (fX2_hasTurned 8 p1 s0) (fun (v2 : Int32) => (if v2 = 0 then zlt (fX7_has (s0.1 2 2) p1) (fun (v4 : Int32) => (if p2 = 0 then zpi s0 2 2 ((s0.1 2 2) &&& ((fX7_bit p1) ^^^ (-1))) (fun (s6 : zkS) => some ((fX7_asNumber v4), s6)) else zpi s0 2 2 ((s0.1 2 2) ||| (fX7_bit p1)) (fun (s9 : zkS) => some ((fX7_asNumber v4), s9)))) else some ((-3), s0))))

def fX6_append (p1 : Int32) (s0 : zkS) : Option (Int32 × zkS) := (if (s0.1 44 0) < 0 then some (0, s0) else (if (s0.1 44 0) < 100 then zwr s0 45 100 (s0.1 44 0) p1 (fun (s1 : zkS) => zpi s1 44 0 ((s1.1 44 0) + 1) (fun (s2 : zkS) => some (1, s2))) else some (0, s0)))

def fX7_feed (p1 : Int32) (s0 : zkS) : Option (Int32 × zkS) := (if p1 < 0 then some ((-2), s0) else (if p1 ≤ 127 then zb2 (fX6_append p1 s0) (fun (v1 : Int32) (s2 : zkS) => (if v1 = 0 then some ((-4), s2) else some ((s2.1 44 0), s2))) else some ((-2), s0)))

def fX0_copyFrom (b : Nat) (o1 : Nat) (s0 : zkS) : Option (zkS) := zpi s0 b 0 (s0.1 o1 0) (fun (s1 : zkS) => zpi s1 b 1 (s1.1 o1 1) (fun (s2 : zkS) => zpi s2 b 2 (s2.1 o1 2) (fun (s3 : zkS) => zcy s3 (o1 + 1) (b + 1) 24 24 0 0 24 (fun (s4 : zkS) => zcy s4 (o1 + 2) (b + 2) 24 24 0 0 24 (fun (s5 : zkS) => zcy s5 (o1 + 3) (b + 3) 24 24 0 0 24 (fun (s6 : zkS) => zcy s6 (o1 + 4) (b + 4) 144 144 0 0 144 (fun (s7 : zkS) => zcy s7 (o1 + 5) (b + 5) 4 4 0 0 4 (fun (s8 : zkS) => some s8))))))))

def fX6_wantMore (s0 : zkS) : Int32 × zkS := zpi s0 44 8 1 (fun (s1 : zkS) => (1, s1))

def fX6_close (s0 : zkS) : Int32 × zkS := zpi s0 44 7 ((s0.1 44 7) - 1) (fun (s1 : zkS) => zpi s1 44 8 0 (fun (s2 : zkS) => (1, s2)))

def fX6_goOn (p1 : Int32) (s0 : zkS) : Option (Int32 × zkS) := (if (s0.1 44 7) ≤ 0 then some (0, s0) else (if (s0.1 44 7) ≤ 6 then zlt ((s0.1 44 7) - 1) (fun (v1 : Int32) => zrd s0 47 6 v1 (fun (v2 : Int32) => (if v2 = 1 then zrd s0 48 6 v1 (fun (v3 : Int32) => (if 2 ≤ v3 then (if p1 = 41 then zw2 (fX6_close s0) (fun (v4 : Int32) (s5 : zkS) => (if v4 = 0 then some (0, s5) else some (1, s5))) else some (0, s0)) else (if p1 = 46 then zw2 (fX6_wantMore s0) (fun (v6 : Int32) (s7 : zkS) => (if v6 = 0 then some (0, s7) else some (1, s7))) else some (0, s0)))) else (if v2 = 2 then (if p1 = 93 then zw2 (fX6_close s0) (fun (v8 : Int32) (s9 : zkS) => zck v8 (some (v8, s9))) else (if p1 = 44 then zrd s0 48 6 v1 (fun (v10 : Int32) => (if 6 ≤ v10 then some (0, s0) else zw2 (fX6_wantMore s0) (fun (v11 : Int32) (s12 : zkS) => (if v11 = 0 then some (0, s12) else some (1, s12))))) else some (0, s0))) else (if p1 = 62 then zw2 (fX6_close s0) (fun (v13 : Int32) (s14 : zkS) => (if v13 = 0 then some (0, s14) else some (1, s14))) else some (0, s0)))))) else some (0, s0)))

def fX6_isRowJustOpened (s0 : zkS) : Option (Int32) := (if (s0.1 44 7) ≤ 0 then some 0 else (if 6 < (s0.1 44 7) then some 0 else zrd s0 47 6 ((s0.1 44 7) - 1) (fun (v1 : Int32) => (if v1 = 2 then zrd s0 48 6 ((s0.1 44 7) - 1) (fun (v2 : Int32) => (if v2 = 0 then some 1 else some 0)) else some 0))))

def fX6_put (o2 : Nat) (p1 : Int32) (s0 : zkS) : Option (Int32 × zkS) := (if (s0.1 44 7) ≤ 0 then zpi s0 44 2 p1 (fun (s1 : zkS) => some (1, s1)) else (if (s0.1 44 7) ≤ 6 then zlt ((s0.1 44 7) - 1) (fun (v2 : Int32) => zrd s0 47 6 v2 (fun (v3 : Int32) => zjn (fun (s5 : zkS) => zrd s5 46 6 v2 (fun (v6 : Int32) => zrd s5 48 6 v2 (fun (v7 : Int32) => zb1 (fX0_putInto o2 v6 v7 p1 s5) (fun (s8 : zkS) => zrd s8 48 6 v2 (fun (v9 : Int32) => zwr s8 48 6 v2 (v9 + 1) (fun (s10 : zkS) => some (1, s10))))))) (fun (J4 : zkS → Option (Int32 × zkS)) => (if v3 = 2 then zrd s0 46 6 v2 (fun (v11 : Int32) => zb1 (fX0_widen o2 v11 s0) (fun (s12 : zkS) => J4 s12)) else J4 s0)))) else zpi s0 44 2 p1 (fun (s13 : zkS) => some (1, s13))))

def fX6_open (o2 : Nat) (p1 : Int32) (s0 : zkS) : Option (Int32 × zkS) := (if (s0.1 44 7) < 0 then some (0, s0) else (if (s0.1 44 7) < 6 then zjn (fun (v2 : Int32) => zb2 (fX0_add o2 v2 0 (fX7_fieldsOf v2 0) s0) (fun (v4 : Int32) (s5 : zkS) => zpi s5 44 1 ((s5.1 44 1) + 1) (fun (s6 : zkS) => zb2 (fX6_put o2 v4 s6) (fun (v7 : Int32) (s8 : zkS) => zwr s8 46 6 (s8.1 44 7) v4 (fun (s9 : zkS) => zwr s9 47 6 (s9.1 44 7) v2 (fun (s10 : zkS) => zwr s10 48 6 (s10.1 44 7) 0 (fun (s11 : zkS) => zpi s11 44 7 ((s11.1 44 7) + 1) (fun (s12 : zkS) => some (1, s12))))))))) (fun (J1 : Int32 → Option (Int32 × zkS)) => (if p1 = 40 then J1 1 else (if p1 = 91 then J1 2 else J1 3))) else some (0, s0)))

def fX6_take (o2 : Nat) (p1 : Int32) (p3 : Int32) (s0 : zkS) : Option (Int32 × zkS) := (if (s0.1 44 8) = 0 then zb2 (fX6_goOn p1 s0) (fun (v1 : Int32) (s2 : zkS) => zck v1 (some (v1, s2))) else zjn (fun (u4 : Unit) => (if p1 = 40 then zb2 (fX6_open o2 p1 s0) (fun (v5 : Int32) (s6 : zkS) => zck v5 (some (v5, s6))) else (if p1 = 91 then zb2 (fX6_open o2 p1 s0) (fun (v7 : Int32) (s8 : zkS) => zck v7 (some (v7, s8))) else (if p1 = 60 then zb2 (fX6_open o2 p1 s0) (fun (v9 : Int32) (s10 : zkS) => zck v9 (some (v9, s10))) else zpi s0 44 8 0 (fun (s11 : zkS) => (if p1 = 126 then zb2 (fX6_put o2 (-5) s11) (fun (v12 : Int32) (s13 : zkS) => zck v12 (some (v12, s13))) else zjn (fun (u15 : Unit) => zjn (fun (u17 : Unit) => zlt (((s11.1 44 7) - 1) - (p1 - 65)) (fun (v18 : Int32) => (if p1 < 65 then some (0, s11) else (if 70 < p1 then some (0, s11) else (if v18 < 0 then some (0, s11) else (if 6 ≤ v18 then some (0, s11) else zrd s11 46 6 v18 (fun (v19 : Int32) => zb2 (fX6_put o2 v19 s11) (fun (v20 : Int32) (s21 : zkS) => (if v20 = 0 then some (0, s21) else some (1, s21)))))))))) (fun (J16 : Unit → Option (Int32 × zkS)) => (if p1 < 97 then J16 () else (if 120 < p1 then J16 () else (if (fX7_has p3 (p1 - 97)) = 0 then some (0, s11) else zb2 (fX6_put o2 (p1 - 97) s11) (fun (v23 : Int32) (s24 : zkS) => (if v23 = 0 then some (0, s24) else some (1, s24)))))))) (fun (J14 : Unit → Option (Int32 × zkS)) => (if p1 < 48 then J14 () else (if 57 < p1 then J14 () else zpi s11 44 1 ((s11.1 44 1) + 1) (fun (s25 : zkS) => zb2 (fX0_add o2 0 (p1 - 48) 0 s25) (fun (v26 : Int32) (s27 : zkS) => zb2 (fX6_put o2 v26 s27) (fun (v28 : Int32) (s29 : zkS) => zck v28 (some (v28, s29)))))))))))))) (fun (J3 : Unit → Option (Int32 × zkS)) => (if p1 = 93 then zb1 (fX6_isRowJustOpened s0) (fun (v30 : Int32) => (if v30 = 0 then J3 () else zw2 (fX6_close s0) (fun (v31 : Int32) (s32 : zkS) => zck v31 (some (v31, s32))))) else J3 ())))

def fX6_readInto_L17 (n : Nat) (o1 : Nat) (x2 : Int32) (x3 : Int32) (s4 : zkS) (K17 : zkS → Option (Int32 × zkS)) : Option (Int32 × zkS) := match n with
  | 0 => none
  | n + 1 => (if (s4.1 44 0) ≤ x3 then K17 s4 else (if 100 ≤ x3 then K17 s4 else zrd s4 45 100 x3 (fun (v5 : Int32) => zb2 (fX6_take o1 v5 x2 s4) (fun (v6 : Int32) (s7 : zkS) => (if v6 = 0 then some (x3, s7) else zlt (x3 + 1) (fun (v8 : Int32) => fX6_readInto_L17 n o1 x2 v8 s7 K17))))))
def fX6_readInto (o1 : Nat) (p2 : Int32) (s0 : zkS) : Option (Int32 × zkS) := zpi s0 44 1 0 (fun (s1 : zkS) => zpi s1 44 7 0 (fun (s2 : zkS) => zpi s2 44 8 1 (fun (s3 : zkS) => fX6_readInto_L17 zFU o1 p2 0 s3 (fun (s9 : zkS) => (if (s9.1 44 7) = 0 then (if (s9.1 44 8) = 0 then some ((-1), s9) else some ((s9.1 44 0), s9)) else some ((s9.1 44 0), s9))))))

def fX7_build (p1 : Int32) (s0 : zkS) : Option (Int32 × zkS) := (if (fX7_isRoot p1) = 0 then some ((-1), s0) else (if (s0.1 8 0) = 0 then zb1 (fX0_copyFrom 33 2 s0) (fun (s2 : zkS) => zb2 (fX6_readInto 33 (s2.1 2 1) s2) (fun (v3 : Int32) (s4 : zkS) => zpi s4 44 0 0 (fun (s5 : zkS) => (if v3 < 0 then (if ((s5.1 2 0) + (s5.1 44 1)) ≤ 24 then zb1 (fX0_putIntoRoot 33 p1 (s5.1 44 2) s5) (fun (s6 : zkS) => zb1 (fX0_copyFrom 2 33 s6) (fun (s7 : zkS) => zpi s7 8 1 0 (fun (s8 : zkS) => some ((s8.1 44 1), s8)))) else some ((-4), s5)) else some (((-10) - v3), s5))))) else some ((-3), s0)))

def fX7_isLimit (p1 : Int32) : Int32 := (if p1 < 0 then 0 else (if 8 < p1 then 0 else 1))
theorem z01_X7_isLimit (p1 : Int32) : fX7_isLimit p1 = 0 ∨ fX7_isLimit p1 = 1 := by
  unfold fX7_isLimit
  (repeat' split) <;> first | exact Or.inl rfl | exact Or.inr rfl

def fX2_start (b : Nat) (p1 : Int32) (s0 : zkS) : zkS := zpi s0 b 0 1 (fun (s1 : zkS) => zpi s1 b 1 0 (fun (s2 : zkS) => zpi s2 b 2 0 (fun (s3 : zkS) => zpi s3 b 3 0 (fun (s4 : zkS) => zpi s4 b 4 (-5) (fun (s5 : zkS) => zpi s5 b 5 0 (fun (s6 : zkS) => zpi s6 b 6 0 (fun (s7 : zkS) => zpi s7 b 7 p1 (fun (s8 : zkS) => zpi s8 b 8 0 (fun (s9 : zkS) => zpi s9 b 9 0 (fun (s10 : zkS) => zpi s10 b 10 0 (fun (s11 : zkS) => zpi s11 b 11 0 (fun (s12 : zkS) => zpi s12 b 12 0 (fun (s13 : zkS) => s13)))))))))))))

def fX7_begin (p1 : Int32) (s0 : zkS) : Int32 × zkS := (if (fX7_isLimit p1) = 0 then ((-2), s0) else (if (s0.1 8 0) = 0 then zlt (fX2_start 8 p1 s0) (fun (s2 : zkS) => ((fJ6_bitCount_0f7a4 (s2.1 2 1)), s2)) else ((-3), s0)))

def fX2_putCount (b : Nat) (p1 : Int32) (p2 : Int32) (s0 : zkS) : Option (zkS) := (if (fX7_bit p1) = 0 then some s0 else zwr s0 (b + 2) 24 p1 p2 (fun (s2 : zkS) => some s2))

def fX2_mark (b : Nat) (p1 : Int32) (s0 : zkS) : Option (zkS) := zpi s0 b 2 ((s0.1 b 2) ||| (fX7_bit p1)) (fun (s2 : zkS) => zb1 (fX2_putCount b p1 0 s2) (fun (s3 : zkS) => some s3))

def fX2_setOut (b : Nat) (o1 : Nat) (s0 : zkS) : Option (zkS) := (if 4 ≤ (s0.1 b 8) then (if (s0.1 b 3) = 0 then zpi s0 b 0 0 (fun (s1 : zkS) => zpi s1 b 1 1 (fun (s2 : zkS) => some s2)) else zpi s0 b 4 (fX7_firstOf (s0.1 b 3)) (fun (s4 : zkS) => zpi s4 b 3 ((s4.1 b 3) &&& ((fX7_bit (s4.1 b 4)) ^^^ (-1))) (fun (s6 : zkS) => zb1 (fX2_putCount b (s6.1 b 4) 0 s6) (fun (s7 : zkS) => some s7)))) else zb1 (fX0_heldByRoot o1 (s0.1 b 8) s0) (fun (v8 : Int32) => (if v8 = (-5) then zpi s0 b 8 ((s0.1 b 8) + 1) (fun (s9 : zkS) => some s9) else (if (fX7_has (s0.1 b 2) v8) = 0 then zb1 (fX2_mark b v8 s0) (fun (s11 : zkS) => zpi s11 b 4 v8 (fun (s12 : zkS) => zpi s12 b 8 ((s12.1 b 8) + 1) (fun (s13 : zkS) => some s13))) else zpi s0 b 8 ((s0.1 b 8) + 1) (fun (s14 : zkS) => some s14)))))

def fX2_goDown (b : Nat) (p1 : Int32) (s0 : zkS) : Option (zkS) := zjn (fun (s2 : zkS) => zpi s2 b 12 (if (s2.1 b 12) < (s2.1 b 5) then (s2.1 b 5) else (s2.1 b 12)) (fun (s3 : zkS) => zpi s3 b 4 p1 (fun (s4 : zkS) => some s4))) (fun (J1 : zkS → Option (zkS)) => (if (s0.1 b 5) < 0 then J1 s0 else (if 24 ≤ (s0.1 b 5) then J1 s0 else zwr s0 (b + 1) 24 (s0.1 b 5) (s0.1 b 4) (fun (s5 : zkS) => zpi s5 b 5 ((s5.1 b 5) + 1) (fun (s6 : zkS) => J1 s6)))))

def fX2_goOn (b : Nat) (o1 : Nat) (s0 : zkS) : Option (zkS) := zb1 (fX2_countOf b (s0.1 b 4) s0) (fun (v1 : Int32) => zb1 (fX0_leadsTo o1 (s0.1 b 4) v1 s0) (fun (v2 : Int32) => zjn (fun (u4 : Unit) => zb1 (fX2_countOf b (s0.1 b 4) s0) (fun (v5 : Int32) => zb1 (fX2_putCount b (s0.1 b 4) (v5 + 1) s0) (fun (s6 : zkS) => some s6))) (fun (J3 : Unit → Option (zkS)) => (if v2 = (-5) then J3 () else (if (fX7_has (s0.1 b 2) v2) = 0 then zb1 (fX2_mark b v2 s0) (fun (s8 : zkS) => (if (s8.1 b 7) ≤ (s8.1 b 5) then (if (fX7_has (s8.1 o1 2) (s8.1 b 4)) = 0 then zpi s8 b 9 ((s8.1 b 9) + 1) (fun (s10 : zkS) => zb1 (fX2_goDown b v2 s10) (fun (s11 : zkS) => some s11)) else zpi s8 b 11 ((s8.1 b 11) + 1) (fun (s12 : zkS) => zpi s12 b 3 ((s12.1 b 3) ||| (fX7_bit v2)) (fun (s14 : zkS) => zb1 (fX2_countOf b (s14.1 b 4) s14) (fun (v15 : Int32) => zb1 (fX2_putCount b (s14.1 b 4) (v15 + 1) s14) (fun (s16 : zkS) => some s16))))) else zpi s8 b 10 ((s8.1 b 10) + 1) (fun (s17 : zkS) => zb1 (fX2_goDown b v2 s17) (fun (s18 : zkS) => some s18)))) else J3 ())))))

def fX2_comeUp (b : Nat) (s0 : zkS) : Option (zkS) := (if (s0.1 b 5) ≤ 0 then zpi s0 b 4 (-5) (fun (s1 : zkS) => some s1) else (if 24 < (s0.1 b 5) then zpi s0 b 4 (-5) (fun (s2 : zkS) => some s2) else zpi s0 b 5 ((s0.1 b 5) - 1) (fun (s3 : zkS) => zrd s3 (b + 1) 24 (s3.1 b 5) (fun (v4 : Int32) => zpi s3 b 4 v4 (fun (s5 : zkS) => zb1 (fX2_countOf b (s5.1 b 4) s5) (fun (v6 : Int32) => zb1 (fX2_putCount b (s5.1 b 4) (v6 + 1) s5) (fun (s7 : zkS) => some s7)))))))

def fX2_run_L8 (n : Nat) (b : Nat) (o1 : Nat) (x2 : Int32) (x4 : Int32) (s1 : zkS) (K8 : zkS → Option (Int32 × zkS)) : Option (Int32 × zkS) := match n with
  | 0 => none
  | n + 1 => (if x2 ≤ x4 then K8 s1 else (if (s1.1 b 0) = 0 then K8 s1 else (if (s1.1 b 4) = (-5) then zb1 (fX2_setOut b o1 s1) (fun (s2 : zkS) => zpi s2 b 6 ((s2.1 b 6) + 1) (fun (s3 : zkS) => zlt (x4 + 1) (fun (v4 : Int32) => fX2_run_L8 n b o1 x2 v4 s3 K8))) else zb1 (fX2_countOf b (s1.1 b 4) s1) (fun (v5 : Int32) => zb1 (fX0_sizeOf o1 (s1.1 b 4) s1) (fun (v6 : Int32) => (if v6 ≤ v5 then zb1 (fX2_comeUp b s1) (fun (s7 : zkS) => zpi s7 b 6 ((s7.1 b 6) + 1) (fun (s8 : zkS) => zlt (x4 + 1) (fun (v9 : Int32) => fX2_run_L8 n b o1 x2 v9 s8 K8))) else zb1 (fX2_goOn b o1 s1) (fun (s10 : zkS) => zpi s10 b 6 ((s10.1 b 6) + 1) (fun (s11 : zkS) => zlt (x4 + 1) (fun (v12 : Int32) => fX2_run_L8 n b o1 x2 v12 s11 K8)))))))))
def fX2_run (b : Nat) (o1 : Nat) (p2 : Int32) (s0 : zkS) : Option (Int32 × zkS) := fX2_run_L8 zFU b o1 p2 0 s0 (fun (s13 : zkS) => some (((s13.1 b 6) - (s0.1 b 6)), s13))

def fX7_step (p1 : Int32) (s0 : zkS) : Option (Int32 × zkS) := (if p1 < 0 then some ((-2), s0) else (if p1 ≤ 99 then (if (s0.1 8 0) = 0 then some ((-3), s0) else zb2 (fX2_run 8 2 p1 s0) (fun (v1 : Int32) (s2 : zkS) => some (v1, s2))) else some ((-2), s0)))

def fX2_turnedNow (b : Nat) (s0 : zkS) : Int32 := zlt ((s0.1 b 5) - (s0.1 b 7)) (fun (v1 : Int32) => (if v1 < 0 then 0 else v1))

def fX2_breakOff (b : Nat) (s0 : zkS) : zkS := zpi s0 b 0 0 (fun (s1 : zkS) => zpi s1 b 4 (-5) (fun (s2 : zkS) => zpi s2 b 5 0 (fun (s3 : zkS) => s3)))

def fX7_leave (s0 : zkS) : Int32 × zkS := (if (s0.1 8 0) = 0 then ((-3), s0) else zlt (fX2_turnedNow 8 s0) (fun (v2 : Int32) => zlt (fX2_breakOff 8 s0) (fun (s3 : zkS) => (v2, s3))))

def fX0_keepOnly_L30 (n : Nat) (b : Nat) (x3 : Int32) (x4 : Int32) (s4 : zkS) (K30 : zkS → Option (Int32 × zkS)) : Option (Int32 × zkS) := match n with
  | 0 => none
  | n + 1 => zb1 (fX0_sizeOf b x3 s4) (fun (v5 : Int32) => (if v5 ≤ x4 then K30 s4 else zb1 (fX0_heldBy b x3 x4 s4) (fun (v6 : Int32) => (if (fX0_isThere b v6 s4) = 0 then zb1 (fX0_putInto b x3 x4 (-5) s4) (fun (s8 : zkS) => zlt (x4 + 1) (fun (v9 : Int32) => fX0_keepOnly_L30 n b x3 v9 s8 K30)) else zlt (x4 + 1) (fun (v10 : Int32) => fX0_keepOnly_L30 n b x3 v10 s4 K30)))))
def fX0_keepOnly_L21 (n : Nat) (b : Nat) (x3 : Int32) (s3 : zkS) (K21 : zkS → Option (Int32 × zkS)) : Option (Int32 × zkS) := match n with
  | 0 => none
  | n + 1 => (if 24 ≤ x3 then K21 s3 else fX0_keepOnly_L30 zFU b x3 0 s3 (fun (s11 : zkS) => zlt (x3 + 1) (fun (v12 : Int32) => fX0_keepOnly_L21 n b v12 s11 K21)))
def fX0_keepOnly (b : Nat) (p1 : Int32) (s0 : zkS) : Option (Int32 × zkS) := zlt ((s0.1 b 1) &&& (p1 ^^^ (-1))) (fun (v1 : Int32) => zpi s0 b 1 ((s0.1 b 1) &&& p1) (fun (s2 : zkS) => fX0_keepOnly_L21 zFU b 0 s2 (fun (s13 : zkS) => some ((fJ6_bitCount_0f7a4 v1), s13))))

def fX7_sweep (s0 : zkS) : Option (Int32 × zkS) := (if (s0.1 8 1) = 0 then some ((-3), s0) else zb2 (fX0_keepOnly 2 (s0.1 8 2) s0) (fun (v1 : Int32) (s2 : zkS) => zpi s2 8 2 0 (fun (s3 : zkS) => zpi s3 8 1 0 (fun (s4 : zkS) => some (v1, s4)))))

def fX2_back (b : Nat) (s0 : zkS) : Option (Int32) := (if (fX2_turnedAt b ((s0.1 b 5) - 1) s0) = 0 then some (-5) else zrd s0 (b + 1) 24 ((s0.1 b 5) - 1) (fun (v2 : Int32) => some v2))

def fX2_tally (b : Nat) (p1 : Int32) (s0 : zkS) : Int32 := (if p1 = 0 then (s0.1 b 6) else (if p1 = 1 then (s0.1 b 9) else (if p1 = 2 then (s0.1 b 10) else (if p1 = 3 then (s0.1 b 11) else (s0.1 b 12)))))

def fX2_copyFrom (b : Nat) (o1 : Nat) (s0 : zkS) : Option (zkS) := zpz s0 b 0 (s0.1 o1 0) (fun (s1 : zkS) => zpz s1 b 1 (s1.1 o1 1) (fun (s2 : zkS) => zpi s2 b 2 (s2.1 o1 2) (fun (s3 : zkS) => zpi s3 b 3 (s3.1 o1 3) (fun (s4 : zkS) => zpi s4 b 4 (s4.1 o1 4) (fun (s5 : zkS) => zpi s5 b 5 (s5.1 o1 5) (fun (s6 : zkS) => zpi s6 b 6 (s6.1 o1 6) (fun (s7 : zkS) => zpi s7 b 7 (s7.1 o1 7) (fun (s8 : zkS) => zpi s8 b 8 (s8.1 o1 8) (fun (s9 : zkS) => zpi s9 b 9 (s9.1 o1 9) (fun (s10 : zkS) => zpi s10 b 10 (s10.1 o1 10) (fun (s11 : zkS) => zpi s11 b 11 (s11.1 o1 11) (fun (s12 : zkS) => zpi s12 b 12 (s12.1 o1 12) (fun (s13 : zkS) => zcy s13 (o1 + 1) (b + 1) 24 24 0 0 24 (fun (s14 : zkS) => zcy s14 (o1 + 2) (b + 2) 24 24 0 0 24 (fun (s15 : zkS) => some s15)))))))))))))))

def fX7_ofMarking (p1 : Int32) (s0 : zkS) : Option (Int32 × zkS) := (if p1 = 0 then some ((fX7_asNumber (s0.1 8 0)), s0) else (if p1 = 1 then some ((s0.1 8 4), s0) else (if p1 = 2 then zb1 (fX2_back 8 s0) (fun (v2 : Int32) => some (v2, s0)) else (if p1 = 3 then some ((fX2_tally 8 (p1 - 3) s0), s0) else (if p1 = 4 then some ((fX2_tally 8 (p1 - 3) s0), s0) else (if p1 = 5 then some ((fX2_tally 8 (p1 - 3) s0), s0) else (if p1 = 6 then some ((fX2_tally 8 (p1 - 3) s0), s0) else (if p1 = 7 then some ((fX2_tally 8 (p1 - 3) s0), s0) else (if p1 = 8 then some ((-1), s0) else (if p1 = 9 then some ((-1), s0) else (if p1 = 10 then some ((-1), s0) else (if p1 = 11 then zb1 (fX2_copyFrom 39 8 s0) (fun (s8 : zkS) => zb2 (fX2_run 39 2 1000 s8) (fun (v9 : Int32) (s10 : zkS) => some (v9, s10))) else (if p1 = 12 then some (((s0.1 8 5) - (fX2_turnedNow 8 s0)), s0) else (if p1 = 13 then some ((-1), s0) else (if p1 = 14 then some ((fX7_asNumber (s0.1 8 1)), s0) else some ((-1), s0))))))))))))))))

def fX7_told (p1 : Int32) (s0 : zkS) : Option (Int32 × zkS) := (if p1 = 8 then some ((s0.1 8 2), s0) else (if p1 = 9 then some ((s0.1 8 3), s0) else (if p1 = 10 then zb1 (fX1_readFrom 2 s0) (fun (s1 : zkS) => zb1 (fX1_reached s1) (fun (v2 : Int32) => some (v2, s1))) else (if p1 = 11 then zb2 (fX7_ofMarking p1 s0) (fun (v3 : Int32) (s4 : zkS) => some (v3, s4)) else (if p1 = 12 then zb2 (fX7_ofMarking p1 s0) (fun (v5 : Int32) (s6 : zkS) => some (v5, s6)) else (if p1 = 13 then some ((s0.1 2 1), s0) else (if p1 = 14 then zb2 (fX7_ofMarking p1 s0) (fun (v7 : Int32) (s8 : zkS) => some (v7, s8)) else (if p1 = 15 then zb1 (fX0_heldByRoot 2 (p1 - 15) s0) (fun (v9 : Int32) => some (v9, s0)) else (if p1 = 16 then zb1 (fX0_heldByRoot 2 (p1 - 15) s0) (fun (v10 : Int32) => some (v10, s0)) else (if p1 = 17 then zb1 (fX0_heldByRoot 2 (p1 - 15) s0) (fun (v11 : Int32) => some (v11, s0)) else (if p1 = 18 then zb1 (fX0_heldByRoot 2 (p1 - 15) s0) (fun (v12 : Int32) => some (v12, s0)) else zb2 (fX7_ofMarking p1 s0) (fun (v13 : Int32) (s14 : zkS) => some (v13, s14)))))))))))))

def fX7_on (p1 : Int32) (p2 : Int32) (s0 : zkS) : Option (Int32 × zkS) := (if p2 < 0 then some ((-1), s0) else (if p2 ≤ 4 then (if p1 < 0 then some ((-2), s0) else (if p1 ≤ 400 then zb1 (fX2_copyFrom 39 8 s0) (fun (s1 : zkS) => zb2 (fX2_run 39 2 p1 s1) (fun (v2 : Int32) (s3 : zkS) => (if p2 = 0 then some ((s3.1 39 4), s3) else (if p2 = 1 then zb1 (fX2_back 39 s3) (fun (v4 : Int32) => some (v4, s3)) else (if p2 = 2 then some ((s3.1 39 2), s3) else (if p2 = 3 then some ((fX2_turnedNow 39 s3), s3) else some ((s3.1 39 6), s3))))))) else some ((-2), s0))) else some ((-1), s0)))

def fX7_need (p1 : Int32) (p2 : Int32) (s0 : zkS) : Option (Int32 × zkS) := (if p2 < 0 then some ((-1), s0) else (if p2 ≤ 4 then (if (fX7_isLimit p1) = 0 then some ((-2), s0) else (if (s0.1 8 0) = 0 then zlt (fX2_start 39 p1 s0) (fun (s2 : zkS) => zb2 (fX2_run 39 2 1000 s2) (fun (v3 : Int32) (s4 : zkS) => some ((fX2_tally 39 p2 s4), s4))) else some ((-3), s0))) else some ((-1), s0)))

def fX7_least_L29 (n : Nat) (x1 : Int32) (x2 : Int32) (s1 : zkS) (K29 : zkS → Option (Int32 × zkS)) : Option (Int32 × zkS) := match n with
  | 0 => none
  | n + 1 => (if 8 < x2 then K29 s1 else zlt (fX2_start 39 x2 s1) (fun (s2 : zkS) => zb2 (fX2_run 39 2 1000 s2) (fun (v3 : Int32) (s4 : zkS) => (if x1 = 0 then (if (fX2_tally 39 1 s4) = 0 then some (x2, s4) else zlt (x2 + 1) (fun (v6 : Int32) => fX7_least_L29 n x1 v6 s4 K29)) else (if (fX2_tally 39 3 s4) = 0 then some (x2, s4) else zlt (x2 + 1) (fun (v8 : Int32) => fX7_least_L29 n x1 v8 s4 K29))))))
def fX7_least (p1 : Int32) (s0 : zkS) : Option (Int32 × zkS) := (if p1 < 0 then some ((-1), s0) else (if p1 ≤ 1 then (if (s0.1 8 0) = 0 then fX7_least_L29 zFU p1 0 s0 (fun (s9 : zkS) => some ((-5), s9)) else some ((-3), s0)) else some ((-1), s0)))

def fX3_clear (b : Nat) (s0 : zkS) : Int32 × zkS := zpi s0 b 0 0 (fun (s1 : zkS) => ((s1.1 b 0), s1))

def fX3_add (b : Nat) (p1 : Int32) (p2 : Int32) (p3 : Int32) (s0 : zkS) : Option (Int32 × zkS) := (if (s0.1 b 0) < 0 then some ((s0.1 b 0), s0) else (if 10 ≤ (s0.1 b 0) then some ((s0.1 b 0), s0) else zwr s0 (b + 1) 30 ((s0.1 b 0) * 3) p1 (fun (s1 : zkS) => zwr s1 (b + 1) 30 (((s1.1 b 0) * 3) + 1) p2 (fun (s2 : zkS) => zwr s2 (b + 1) 30 (((s2.1 b 0) * 3) + 2) p3 (fun (s3 : zkS) => zpi s3 b 0 ((s3.1 b 0) + 1) (fun (s4 : zkS) => some ((s4.1 b 0), s4)))))))

def fX7_see (p1 : Int32) (p2 : Int32) (p3 : Int32) (s0 : zkS) : Option (Int32 × zkS) := (if p1 = (-1) then zw2 (fX3_clear 11 s0) (fun (v1 : Int32) (s2 : zkS) => some (v1, s2)) else (if (fX0_isThere 2 p1 s0) = 0 then some ((-1), s0) else (if p2 < 0 then some ((-2), s0) else (if p2 ≤ 40 then (if 5 ≤ (s0.1 11 0) then some ((-4), s0) else zb2 (fX3_add 11 p1 p2 (fX7_asNumber p3) s0) (fun (v5 : Int32) (s6 : zkS) => some (v5, s6))) else some ((-2), s0)))))

def fX3_number (b : Nat) (p1 : Int32) (p2 : Int32) (s0 : zkS) : Option (Int32) := zjn (fun (v2 : Int32) => (if v2 = 0 then some (-5) else zrd s0 (b + 1) 30 ((p1 * 3) + p2) (fun (v3 : Int32) => some v3))) (fun (J1 : Int32 → Option (Int32)) => zjn (fun (u5 : Unit) => J1 0) (fun (J4 : Unit → Option (Int32)) => (if p1 < 0 then J4 () else (if (s0.1 b 0) ≤ p1 then J4 () else (if 10 ≤ p1 then J4 () else (if p2 < 0 then J4 () else (if 3 ≤ p2 then J4 () else J1 1)))))))

def fX7_isAsSeenBehind_L2 (n : Nat) (s0 : zkS) (x1 : Int32) (x2 : Int32) (x3 : Int32) (K2 : Unit → Option (Int32)) : Option (Int32) := match n with
  | 0 => none
  | n + 1 => (if (s0.1 11 0) ≤ x3 then K2 () else zb1 (fX3_number 11 x3 0 s0) (fun (v1 : Int32) => zlt (fX7_has x2 v1) (fun (v3 : Int32) => zb1 (fX3_number 11 x3 1 s0) (fun (v4 : Int32) => (if v4 = x1 then zb1 (fX3_number 11 x3 2 s0) (fun (v5 : Int32) => (if v5 = (fX7_asNumber v3) then zlt (x3 + 1) (fun (v7 : Int32) => fX7_isAsSeenBehind_L2 n s0 x1 x2 v7 K2) else some 0)) else zlt (x3 + 1) (fun (v8 : Int32) => fX7_isAsSeenBehind_L2 n s0 x1 x2 v8 K2))))))
def fX7_isAsSeenBehind (p1 : Int32) (p2 : Int32) (s0 : zkS) : Option (Int32) := fX7_isAsSeenBehind_L2 zFU s0 p1 p2 0 (fun (_ : Unit) => some 1)

def fX7_isAsSeen_L10 (n : Nat) (o1 : Nat) (x3 : Int32) (s2 : zkS) (K10 : zkS → Option (Int32 × zkS)) : Option (Int32 × zkS) := match n with
  | 0 => none
  | n + 1 => (if 40 < x3 then K10 s2 else zb1 (fX7_isAsSeenBehind x3 (s2.1 39 2) s2) (fun (v3 : Int32) => (if v3 = 0 then some (0, s2) else zb2 (fX2_run 39 o1 1 s2) (fun (v4 : Int32) (s5 : zkS) => zlt (x3 + 1) (fun (v6 : Int32) => fX7_isAsSeen_L10 n o1 v6 s5 K10)))))
def fX7_isAsSeen (o1 : Nat) (p2 : Int32) (s0 : zkS) : Option (Int32 × zkS) := zlt (fX2_start 39 p2 s0) (fun (s1 : zkS) => fX7_isAsSeen_L10 zFU o1 0 s1 (fun (s7 : zkS) => some (1, s7)))

def fX7_fits_L44 (n : Nat) (x1 : Int32) (x2 : Int32) (x3 : Int32) (s3 : zkS) (K44 : Int32 → zkS → Option (Int32 × zkS)) : Option (Int32 × zkS) := match n with
  | 0 => none
  | n + 1 => (if 24 ≤ x3 then K44 x2 s3 else zb1 (fX0_putIntoRoot 33 0 x3 s3) (fun (s4 : zkS) => (if (fX0_isThere 2 x3 s4) = 0 then zlt (x3 + 1) (fun (v6 : Int32) => fX7_fits_L44 n x1 x2 v6 s4 K44) else zb2 (fX7_isAsSeen 33 x1 s4) (fun (v7 : Int32) (s8 : zkS) => (if v7 = 0 then zlt (x3 + 1) (fun (v9 : Int32) => fX7_fits_L44 n x1 x2 v9 s8 K44) else zlt (x2 ||| (fX7_bit x3)) (fun (v11 : Int32) => zlt (x3 + 1) (fun (v12 : Int32) => fX7_fits_L44 n x1 v11 v12 s8 K44)))))))
def fX7_fits (p1 : Int32) (s0 : zkS) : Option (Int32 × zkS) := (if (fX7_isLimit p1) = 0 then some ((-2), s0) else (if (s0.1 8 0) = 0 then zb1 (fX0_copyFrom 33 2 s0) (fun (s2 : zkS) => fX7_fits_L44 zFU p1 0 0 s2 (fun (x13 : Int32) (s14 : zkS) => some (x13, s14))) else some ((-3), s0)))

def fX7_can_L76 (n : Nat) (x1 : Int32) (x2 : Int32) (x4 : Int32) (x5 : Int32) (x6 : Int32) (s4 : zkS) (K76 : Int32 → Int32 → zkS → Option (Int32 × zkS)) : Option (Int32 × zkS) := match n with
  | 0 => none
  | n + 1 => (if x6 < 0 then K76 x4 x5 s4 else zb1 (fX0_retag 33 x1 x6 s4) (fun (s5 : zkS) => zb2 (fX7_isAsSeen 33 x2 s5) (fun (v6 : Int32) (s7 : zkS) => (if v6 = 0 then zlt (x6 + (-1)) (fun (v8 : Int32) => fX7_can_L76 n x1 x2 x4 x5 v8 s7 K76) else zlt (x4 + 1) (fun (v9 : Int32) => zlt (x6 + (-1)) (fun (v10 : Int32) => fX7_can_L76 n x1 x2 v9 x6 v10 s7 K76))))))
def fX7_can (p1 : Int32) (p2 : Int32) (p3 : Int32) (s0 : zkS) : Option (Int32 × zkS) := (if (fX0_isThere 2 p1 s0) = 0 then some ((-1), s0) else (if p3 < 0 then some ((-1), s0) else (if p3 ≤ 1 then (if (fX7_isLimit p2) = 0 then some ((-2), s0) else (if (s0.1 8 0) = 0 then zb1 (fX0_copyFrom 33 2 s0) (fun (s3 : zkS) => fX7_can_L76 zFU p1 p2 0 (-5) 9 s3 (fun (x11 : Int32) (x12 : Int32) (s13 : zkS) => (if p3 = 0 then some (x11, s13) else some (x12, s13)))) else some ((-3), s0))) else some ((-1), s0))))

def fX7_fraction_L30 (n : Nat) (x0 : Int32) (x1 : Int32) (x3 : Int32) (x4 : Int32) (K30 : Unit → Option (Int64)) : Option (Int64) := match n with
  | 0 => none
  | n + 1 => (if x4 ≤ 1 then K30 () else zrm x0 x4 (fun (v3 : Int32) => (if v3 = 0 then zrm x1 x4 (fun (v4 : Int32) => (if v4 = 0 then zdv x3 x4 (fun (v5 : Int32) => some ((v5 : Int32).toInt64)) else zlt (x4 + (-1)) (fun (v6 : Int32) => fX7_fraction_L30 n x0 x1 x3 v6 K30))) else zlt (x4 + (-1)) (fun (v7 : Int32) => fX7_fraction_L30 n x0 x1 x3 v7 K30))))
def fX7_fraction (p1 : Int32) (p2 : Int32) (p3 : Int32) : Option (Int64) := (if p2 ≤ 0 then some (-9223372036854775808) else (if p3 < 0 then some (-9223372036854775808) else (if p3 ≤ 1 then zjn (fun (v2 : Int32) => fX7_fraction_L30 zFU p1 p2 v2 p2 (fun (_ : Unit) => some ((v2 : Int32).toInt64))) (fun (J1 : Int32 → Option (Int64)) => (if p3 = 0 then J1 p1 else J1 p2)) else some (-9223372036854775808))))

def fX7_odds_L47 (n : Nat) (x1 : Int32) (x6 : Int32) (x4 : Int32) (x5 : Int32) (x7 : Int32) (s4 : zkS) (K47 : Int32 → Int32 → zkS → Option (Int64 × zkS)) : Option (Int64 × zkS) := match n with
  | 0 => none
  | n + 1 => zb1 (fX0_sizeOf 2 x6 s4) (fun (v5 : Int32) => (if v5 ≤ x7 then K47 x4 x5 s4 else zb1 (fX0_leadsTo 2 x6 x7 s4) (fun (v6 : Int32) => (if v6 = (-5) then zlt (x7 + 1) (fun (v7 : Int32) => fX7_odds_L47 n x1 x6 x4 x5 v7 s4 K47) else zlt (x4 + 1) (fun (v8 : Int32) => zb2 (fX1_reachedWithout 2 x6 x7 s4) (fun (v9 : Int32) (s10 : zkS) => zlt (x5 + (fX7_asNumber (fX7_has v9 x1))) (fun (v13 : Int32) => zlt (x7 + 1) (fun (v14 : Int32) => fX7_odds_L47 n x1 x6 v8 v13 v14 s10 K47))))))))
def fX7_odds_L37 (n : Nat) (x1 : Int32) (x4 : Int32) (x5 : Int32) (x6 : Int32) (s3 : zkS) (K37 : Int32 → Int32 → zkS → Option (Int64 × zkS)) : Option (Int64 × zkS) := match n with
  | 0 => none
  | n + 1 => (if 24 ≤ x6 then K37 x4 x5 s3 else fX7_odds_L47 zFU x1 x6 x4 x5 0 s3 (fun (x15 : Int32) (x16 : Int32) (s17 : zkS) => zlt (x6 + 1) (fun (v18 : Int32) => fX7_odds_L37 n x1 x15 x16 v18 s17 K37)))
def fX7_odds (p1 : Int32) (p2 : Int32) (s0 : zkS) : Option (Int64 × zkS) := (if (fX0_isThere 2 p1 s0) = 0 then some ((-9223372036854775808), s0) else zb1 (fX1_readFrom 2 s0) (fun (s2 : zkS) => fX7_odds_L37 zFU p1 0 0 0 s2 (fun (x19 : Int32) (x20 : Int32) (s21 : zkS) => zb1 (fX7_fraction x20 x19 p2) (fun (v22 : Int64) => some (v22, s21)))))

def fX7_mean_L18 (n : Nat) (s1 : zkS) (x2 : Int32) (x3 : Int32) (K18 : Int32 → Option (Int64 × zkS)) : Option (Int64 × zkS) := match n with
  | 0 => none
  | n + 1 => (if 24 ≤ x3 then K18 x2 else zb1 (fX1_farOf x3 s1) (fun (v2 : Int32) => zlt (x2 + (if v2 < 0 then 0 else v2)) (fun (v3 : Int32) => zlt (x3 + 1) (fun (v4 : Int32) => fX7_mean_L18 n s1 v3 v4 K18))))
def fX7_mean (p1 : Int32) (s0 : zkS) : Option (Int64 × zkS) := zb1 (fX1_readFrom 2 s0) (fun (s1 : zkS) => fX7_mean_L18 zFU s1 0 0 (fun (x5 : Int32) => zb1 (fX1_reached s1) (fun (v6 : Int32) => zb1 (fX7_fraction x5 (fJ6_bitCount_0f7a4 v6) p1) (fun (v8 : Int64) => some (v8, s1)))))

def fX7_isPlannable (p1 : Int32) (p2 : Int32) (s0 : zkS) : Option (Int32) := (if p1 = 0 then (if p2 < 0 then some 0 else zb1 (fX0_isField 2 (p2 / 10) (p2 - p2 / 10 * 10) s0) (fun (v1 : Int32) => (if v1 = 0 then some 0 else some 1))) else (if p1 = 1 then some (fX7_isRoot p2) else (if p1 = 2 then some (fX0_isThere 2 p2 s0) else some 0)))

def fX7_plan (p1 : Int32) (p2 : Int32) (s0 : zkS) : Option (Int32 × zkS) := (if p1 = (-1) then zw2 (fX3_clear 13 s0) (fun (v1 : Int32) (s2 : zkS) => some (v1, s2)) else zb1 (fX7_isPlannable p1 p2 s0) (fun (v3 : Int32) => (if v3 = 0 then some ((-1), s0) else (if 10 ≤ (s0.1 13 0) then some ((-4), s0) else zb2 (fX3_add 13 p1 p2 0 s0) (fun (v4 : Int32) (s5 : zkS) => some (v4, s5))))))

def fX7_ends_L16 (n : Nat) (x1 : Int32) (s2 : zkS) (K16 : zkS → Option (Int32 × zkS)) : Option (Int32 × zkS) := match n with
  | 0 => none
  | n + 1 => (if (s2.1 13 0) ≤ x1 then K16 s2 else zb1 (fX3_number 13 x1 1 s2) (fun (v3 : Int32) => zb1 (fX3_number 13 x1 0 s2) (fun (v4 : Int32) => (if v4 = 0 then zb1 (fX0_putInto 33 (v3 / 10) (v3 - v3 / 10 * 10) (-5) s2) (fun (s5 : zkS) => zlt (x1 + 1) (fun (v6 : Int32) => fX7_ends_L16 n v6 s5 K16)) else (if v4 = 1 then zb1 (fX0_putIntoRoot 33 v3 (-5) s2) (fun (s7 : zkS) => zlt (x1 + 1) (fun (v8 : Int32) => fX7_ends_L16 n v8 s7 K16)) else zb1 (fX0_retag 33 v3 0 s2) (fun (s9 : zkS) => zlt (x1 + 1) (fun (v10 : Int32) => fX7_ends_L16 n v10 s9 K16)))))))
def fX7_ends (s0 : zkS) : Option (Int32 × zkS) := zb1 (fX0_copyFrom 33 2 s0) (fun (s1 : zkS) => fX7_ends_L16 zFU 0 s1 (fun (s11 : zkS) => zb1 (fX1_readFrom 33 s11) (fun (s12 : zkS) => zb1 (fX1_reached s12) (fun (v13 : Int32) => some (v13, s12)))))

def fX7_book (p1 : Int32) (p2 : Int32) (p3 : Int32) (s0 : zkS) : Option (Int32 × zkS) := (if p1 = (-1) then zw2 (fX3_clear 15 s0) (fun (v1 : Int32) (s2 : zkS) => some (v1, s2)) else zb1 (fX0_isField 2 p1 p2 s0) (fun (v3 : Int32) => (if v3 = 0 then some ((-1), s0) else (if (fX0_isThereOrNothing 2 p3 s0) = 0 then some ((-1), s0) else (if 8 ≤ (s0.1 15 0) then some ((-4), s0) else zb2 (fX3_add 15 p1 p2 (fX7_orEmpty p3) s0) (fun (v6 : Int32) (s7 : zkS) => some (v6, s7)))))))

def fX7_looked_L2 (n : Nat) (s0 : zkS) (x1 : Int32) (K2 : Unit → Option (Int32)) : Option (Int32) := match n with
  | 0 => none
  | n + 1 => (if (s0.1 15 0) ≤ x1 then K2 () else zb1 (fX3_number 15 x1 0 s0) (fun (v1 : Int32) => zb1 (fX3_number 15 x1 1 s0) (fun (v2 : Int32) => zb1 (fX0_isField 2 v1 v2 s0) (fun (v3 : Int32) => (if v3 = 0 then some x1 else zb1 (fX0_heldBy 2 v1 v2 s0) (fun (v4 : Int32) => zb1 (fX3_number 15 x1 2 s0) (fun (v5 : Int32) => (if v4 = v5 then zlt (x1 + 1) (fun (v6 : Int32) => fX7_looked_L2 n s0 v6 K2) else some x1))))))))
def fX7_looked (s0 : zkS) : Option (Int32) := fX7_looked_L2 zFU s0 0 (fun (_ : Unit) => some (-5))

def fX7_isTape (p1 : Int32) : Int32 := (if p1 < 0 then 0 else (if 6 ≤ p1 then 0 else 1))
theorem z01_X7_isTape (p1 : Int32) : fX7_isTape p1 = 0 ∨ fX7_isTape p1 = 1 := by
  unfold fX7_isTape
  (repeat' split) <;> first | exact Or.inl rfl | exact Or.inr rfl

def fX5_sortOf (p1 : Int32) (s0 : zkS) : Option (Int32) := (if (fX7_isTape p1) = 0 then some (-5) else zrd s0 50 6 p1 (fun (v2 : Int32) => some v2))

def fX5_isPlace (p1 : Int32) (p2 : Int32) (s0 : zkS) : Option (Int32) := (if (fX7_isTape p1) = 0 then some 0 else (if p2 < 0 then some 0 else zrd s0 51 6 p1 (fun (v2 : Int32) => (if v2 ≤ p2 then some 0 else some 1))))

def fX5_itemAt (p1 : Int32) (p2 : Int32) (s0 : zkS) : Option (Int64) := zb1 (fX5_isPlace p1 p2 s0) (fun (v1 : Int32) => (if v1 = 0 then some 0 else zrdL s0 360 ((p1 * 60) + p2) (fun (v2 : Int64) => some v2)))

def fX7_judge_L35 (n : Nat) (s0 : zkS) (x1 : Int32) (x2 : Int32) (x4 : Int32) (K35 : Unit → Option (Int32)) : Option (Int32) := match n with
  | 0 => none
  | n + 1 => (if (s0.1 2 0) ≤ x4 then K35 () else zb1 (fX5_isPlace x1 (x2 + x4) s0) (fun (v5 : Int32) => (if v5 = 0 then some (100 + x4) else zb1 (fX5_itemAt x1 (x2 + x4) s0) (fun (v6 : Int64) => (if (lg_cmp v6 (((fX7_asNumber (fX7_has (s0.1 8 2) x4)) : Int32).toInt64)) = 0 then zlt (x4 + 1) (fun (v9 : Int32) => fX7_judge_L35 n s0 x1 x2 v9 K35) else some x4)))))
def fX7_judge (p1 : Int32) (p2 : Int32) (s0 : zkS) : Option (Int32) := (if (fX7_isTape p1) = 0 then some (-1) else zb1 (fX5_sortOf p1 s0) (fun (v2 : Int32) => zjn (fun (u4 : Unit) => fX7_judge_L35 zFU s0 p1 p2 0 (fun (_ : Unit) => some (-5))) (fun (J3 : Unit → Option (Int32)) => (if v2 = (-5) then J3 () else (if v2 = 4 then J3 () else some (-12))))))

def fX3_copyFrom (b : Nat) (o1 : Nat) (s0 : zkS) : Option (zkS) := zpi s0 b 0 (s0.1 o1 0) (fun (s1 : zkS) => zcy s1 (o1 + 1) (b + 1) 30 30 0 0 30 (fun (s2 : zkS) => some s2))

def fX4_copyFrom (b : Nat) (o1 : Nat) (s0 : zkS) : Option (zkS) := zb1 (fX0_copyFrom (b + 1) (o1 + 1) s0) (fun (s1 : zkS) => zb1 (fX2_copyFrom (b + 7) (o1 + 7) s1) (fun (s2 : zkS) => zb1 (fX3_copyFrom (b + 10) (o1 + 10) s2) (fun (s3 : zkS) => zb1 (fX3_copyFrom (b + 12) (o1 + 12) s3) (fun (s4 : zkS) => zb1 (fX3_copyFrom (b + 14) (o1 + 14) s4) (fun (s5 : zkS) => some s5)))))

def fX7_image (s0 : zkS) : Option (Int32 × zkS) := zb1 (fX4_copyFrom 17 1 s0) (fun (s1 : zkS) => zpi s1 0 2 1 (fun (s2 : zkS) => some ((fJ6_bitCount_0f7a4 (s2.1 2 1)), s2)))

def fX7_undo (s0 : zkS) : Option (Int32 × zkS) := (if (s0.1 0 2) = 0 then some ((-3), s0) else zb1 (fX4_copyFrom 1 17 s0) (fun (s1 : zkS) => some ((fJ6_bitCount_0f7a4 (s1.1 2 1)), s1)))

def fX7_isUnder_L4 (n : Nat) (x1 : Int32) (x2 : Int32) (x3 : Int32) (K4 : Unit → Option (Int32)) : Option (Int32) := match n with
  | 0 => none
  | n + 1 => (if 7 ≤ x3 then K4 () else (if x2 < 0 then K4 () else (if 7 ≤ x2 then K4 () else (if x2 = x1 then some 1 else zrdU x2 (fun (v1 : Int32) => zlt (x3 + 1) (fun (v2 : Int32) => fX7_isUnder_L4 n x1 v1 v2 K4))))))
def fX7_isUnder (p1 : Int32) (p2 : Int32) : Option (Int32) := fX7_isUnder_L4 zFU p2 p1 0 (fun (_ : Unit) => some 0)

def fX7_taken (p1 : Int32) (p2 : Int32) (s0 : zkS) : Option (Int32) := (if p2 < 0 then some (-2) else (if p2 ≤ 6 then (if (fX0_isThere 2 p1 s0) = 0 then some (-11) else zb1 (fX0_layoutOf 2 p1 s0) (fun (v2 : Int32) => zb1 (fX7_isUnder v2 p2) (fun (v3 : Int32) => (if v3 = 0 then some (-12) else zb1 (fX0_layoutOf 2 p1 s0) (fun (v4 : Int32) => some v4))))) else some (-2)))

def fX7_count (p1 : Int32) (s0 : zkS) : Int32 := (if p1 = 0 then (s0.1 2 0) else (if p1 = 1 then (s0.1 11 0) else (if p1 = 2 then (s0.1 13 0) else (if p1 = 3 then (s0.1 15 0) else (if p1 = 4 then (s0.1 44 0) else (-2))))))

def fJ7_rangeCheck_23922 (p1 : Int32) (p2 : Int32) (p3 : Int32) : Option (Unit) := (if p2 ≤ p3 then (if 0 ≤ p2 then (if p3 ≤ p1 then some () else none) else none) else none)

def fJ7_fill_bad5a_L10 (n : Nat) (x2 : Int32) (x3 : Int64) (x5 : Int32) (s1 : zkS) (K10 : zkS → Option (zkS)) : Option (zkS) := match n with
  | 0 => none
  | n + 1 => (if x2 ≤ x5 then K10 s1 else zwrL s1 360 x5 x3 (fun (s2 : zkS) => zlt (x5 + 1) (fun (v3 : Int32) => fJ7_fill_bad5a_L10 n x2 x3 v3 s2 K10)))
def fJ7_fill_bad5a (p2 : Int32) (p3 : Int32) (p4 : Int64) (s0 : zkS) : Option (zkS) := zb1 (fJ7_rangeCheck_23922 (Int32.ofNat 360) p2 p3) (fun (_ : Unit) => fJ7_fill_bad5a_L10 zFU p3 p4 p2 s0 (fun (s4 : zkS) => some s4))

def fX5_lay (p1 : Int32) (p2 : Int32) (p3 : Int32) (s0 : zkS) : Option (zkS) := (if (fX7_isTape p1) = 0 then some s0 else (if p3 < 0 then some s0 else (if 60 < p3 then some s0 else zwr s0 50 6 p1 p2 (fun (s2 : zkS) => zwr s2 51 6 p1 p3 (fun (s3 : zkS) => zb1 (fJ7_fill_bad5a (p1 * 60) ((p1 * 60) + p3) 0 s3) (fun (s4 : zkS) => some s4))))))

def fX7_tape (p1 : Int32) (p2 : Int32) (p3 : Int32) (s0 : zkS) : Option (Int32 × zkS) := (if (fX7_isTape p1) = 0 then some ((-1), s0) else (if p2 = (-1) then zb1 (fX5_lay p1 (-5) 0 s0) (fun (s2 : zkS) => some (1, s2)) else (if p2 < 0 then some ((-2), s0) else (if 4 < p2 then some ((-2), s0) else (if p3 ≤ 60 then (if 0 ≤ p3 then zb1 (fX5_lay p1 p2 p3 s0) (fun (s3 : zkS) => some (1, s3)) else some ((-14), s0)) else some ((-2), s0))))))

def fX5_cutDown (p1 : Int32) (p2 : Int64) : Int64 := (if p1 = 0 then (((((p2 : Int64).toInt32).toInt8.toInt32) : Int32).toInt64) else (if p1 = 1 then (((((p2 : Int64).toInt32).toInt16.toInt32) : Int32).toInt64) else (if p1 = 2 then ((((p2 : Int64).toInt32) : Int32).toInt64) else (if p1 = 3 then p2 else (if (lg_cmp p2 0) = 0 then 0 else 1)))))

def fX5_write (p1 : Int32) (p2 : Int32) (p3 : Int64) (s0 : zkS) : Option (zkS) := zb1 (fX5_isPlace p1 p2 s0) (fun (v1 : Int32) => (if v1 = 0 then some s0 else zrd s0 50 6 p1 (fun (v2 : Int32) => zwrL s0 360 ((p1 * 60) + p2) (fX5_cutDown v2 p3) (fun (s4 : zkS) => some s4))))

def fX7_item (p1 : Int32) (p2 : Int32) (p3 : Int64) (s0 : zkS) : Option (Int32 × zkS) := (if (fX7_isTape p1) = 0 then some ((-1), s0) else zb1 (fX5_sortOf p1 s0) (fun (v2 : Int32) => (if v2 = (-5) then some ((-11), s0) else zb1 (fX5_isPlace p1 p2 s0) (fun (v3 : Int32) => (if v3 = 0 then some ((-13), s0) else zb1 (fX5_write p1 p2 p3 s0) (fun (s4 : zkS) => some (1, s4)))))))

def fX7_read (p1 : Int32) (p2 : Int32) (s0 : zkS) : Option (Int64) := zb1 (fX5_isPlace p1 p2 s0) (fun (v1 : Int32) => (if v1 = 0 then some (-9223372036854775808) else zb1 (fX5_itemAt p1 p2 s0) (fun (v2 : Int64) => some v2)))

def fX5_isSpan (p1 : Int32) (p2 : Int32) (p3 : Int32) (s0 : zkS) : Option (Int32) := (if (fX7_isTape p1) = 0 then some 0 else (if p3 < 0 then some 0 else (if p2 < 0 then some 0 else zrd s0 51 6 p1 (fun (v2 : Int32) => (if v2 < p2 then some 0 else zrd s0 51 6 p1 (fun (v3 : Int32) => (if (v3 - p2) < p3 then some 0 else some 1)))))))

def fX5_move (p1 : Int32) (p2 : Int32) (p3 : Int32) (p4 : Int32) (p5 : Int32) (s0 : zkS) : Option (zkS) := zb1 (fX5_isSpan p1 p2 p5 s0) (fun (v1 : Int32) => (if v1 = 0 then some s0 else zb1 (fX5_isSpan p3 p4 p5 s0) (fun (v2 : Int32) => (if v2 = 0 then some s0 else zcyL s0 360 ((p1 * 60) + p2) ((p3 * 60) + p4) p5 (fun (s3 : zkS) => some s3)))))

def fX7_shift (p1 : Int32) (p2 : Int32) (p3 : Int32) (p4 : Int32) (p5 : Int32) (s0 : zkS) : Option (Int32 × zkS) := (if (fX7_isTape p1) = 0 then some ((-1), s0) else (if (fX7_isTape p3) = 0 then some ((-1), s0) else zb1 (fX5_sortOf p1 s0) (fun (v3 : Int32) => (if v3 = (-5) then some ((-11), s0) else zb1 (fX5_sortOf p3 s0) (fun (v4 : Int32) => (if v4 = (-5) then some ((-11), s0) else zb1 (fX5_sortOf p1 s0) (fun (v5 : Int32) => zb1 (fX5_sortOf p3 s0) (fun (v6 : Int32) => (if v5 = v6 then zb1 (fX5_isSpan p1 p2 p5 s0) (fun (v7 : Int32) => (if v7 = 0 then some ((-13), s0) else zb1 (fX5_isSpan p3 p4 p5 s0) (fun (v8 : Int32) => (if v8 = 0 then some ((-13), s0) else zb1 (fX5_move p1 p2 p3 p4 p5 s0) (fun (s9 : zkS) => some (p5, s9)))))) else some ((-12), s0))))))))))

def fX8_in (p1 : Int64) (p2 : Int64) (p3 : Int64) : Int32 := (if (lg_cmp p1 p2) < 0 then 0 else (if 0 < (lg_cmp p1 p3) then 0 else 1))
theorem z01_X8_in (p1 : Int64) (p2 : Int64) (p3 : Int64) : fX8_in p1 p2 p3 = 0 ∨ fX8_in p1 p2 p3 = 1 := by
  unfold fX8_in
  (repeat' split) <;> first | exact Or.inl rfl | exact Or.inr rfl

def fX8_bit (p1 : Int32) (p2 : Int32) : Int32 := (if ((p1 >>> (p2 &&& 31)) &&& 1) = 1 then 1 else 0)
theorem z01_X8_bit (p1 : Int32) (p2 : Int32) : fX8_bit p1 p2 = 0 ∨ fX8_bit p1 p2 = 1 := by
  unfold fX8_bit
  (repeat' split) <;> first | exact Or.inl rfl | exact Or.inr rfl

def fX8_copies_L2 (n : Nat) (w1 : Nat) (w2 : Nat) (x2 : Int32) (s1 : zkS) (K2 : zkS → Option (zkS)) : Option (zkS) := match n with
  | 0 => none
  | n + 1 => (if 346 ≤ x2 then K2 s1 else zrd s1 w1 346 x2 (fun (v2 : Int32) => zwr s1 w2 346 x2 v2 (fun (s3 : zkS) => zlt (x2 + 1) (fun (v4 : Int32) => fX8_copies_L2 n w1 w2 v4 s3 K2))))
def fX8_copies (w1 : Nat) (w2 : Nat) (s0 : zkS) : Option (zkS) := fX8_copies_L2 zFU w1 w2 0 s0 (fun (s5 : zkS) => some s5)

def fX8_isThere (p1 : Int32) (s0 : zkS) : Option (Int32) := (if (fX8_in ((p1 : Int32).toInt64) 0 23) = 0 then some 0 else zrd s0 1 346 1 (fun (v2 : Int32) => (if (fX8_bit v2 p1) = 0 then some 0 else some 1)))

def fX8_isField (p1 : Int32) (p2 : Int32) (s0 : zkS) : Option (Int32) := zb1 (fX8_isThere p1 s0) (fun (v1 : Int32) => (if v1 = 0 then some 0 else zrd s0 1 346 (68 + p1) (fun (v2 : Int32) => (if (fX8_in ((p2 : Int32).toInt64) 0 (((v2 - 1) : Int32).toInt64)) = 0 then some 0 else some 1))))

def fX8_comes_L40 (n : Nat) (w1 : Nat) (x4 : Int32) (x5 : Int32) (s6 : zkS) (K40 : zkS → Option (Int32 × zkS)) : Option (Int32 × zkS) := match n with
  | 0 => none
  | n + 1 => (if 6 ≤ x5 then K40 s6 else zwr s6 w1 346 ((140 + (6 * x4)) + x5) (-5) (fun (s7 : zkS) => zlt (x5 + 1) (fun (v8 : Int32) => fX8_comes_L40 n w1 x4 v8 s7 K40)))
def fX8_comes (w1 : Nat) (p2 : Int32) (p3 : Int32) (p4 : Int32) (s0 : zkS) : Option (Int32 × zkS) := zrd s0 w1 346 0 (fun (v1 : Int32) => zwr s0 w1 346 (20 + v1) p2 (fun (s2 : zkS) => zwr s2 w1 346 (44 + v1) p3 (fun (s3 : zkS) => zwr s3 w1 346 (68 + v1) p4 (fun (s4 : zkS) => zwr s4 w1 346 (92 + v1) 0 (fun (s5 : zkS) => fX8_comes_L40 zFU w1 v1 0 s5 (fun (s9 : zkS) => zrd s9 w1 346 1 (fun (v10 : Int32) => zwr s9 w1 346 1 (v10 ||| (1 <<< (v1 &&& 31))) (fun (s11 : zkS) => zrd s11 w1 346 12 (fun (v12 : Int32) => zwr s11 w1 346 12 (v12 &&& ((1 <<< (v1 &&& 31)) ^^^ (-1))) (fun (s13 : zkS) => zrd s13 w1 346 13 (fun (v14 : Int32) => zwr s13 w1 346 13 (v14 &&& ((1 <<< (v1 &&& 31)) ^^^ (-1))) (fun (s15 : zkS) => zrd s15 w1 346 14 (fun (v16 : Int32) => zwr s15 w1 346 14 (v16 &&& ((1 <<< (v1 &&& 31)) ^^^ (-1))) (fun (s17 : zkS) => zwr s17 w1 346 0 (v1 + 1) (fun (s18 : zkS) => zwr s18 w1 346 15 0 (fun (s19 : zkS) => some (v1, s19)))))))))))))))))

def fX8_manyOf (p1 : Int32) (p2 : Int32) : Int32 := (if p1 = 0 then 0 else (if p1 = 1 then 2 else (if p1 = 6 then 2 else (if p1 = 2 then p2 else (if p1 = 5 then p2 else 1)))))

def fX8_cell (p1 : Int32) (p2 : Int32) (p3 : Int32) (s0 : zkS) : Option (Int32 × zkS) := (if (fX8_in ((p1 : Int32).toInt64) 0 6) = 0 then some ((-1), s0) else (if (fX8_in ((p2 : Int32).toInt64) 0 9) = 0 then some ((-2), s0) else zjn (fun (u4 : Unit) => zrd s0 1 346 2 (fun (v5 : Int32) => (if v5 = 1 then some ((-3), s0) else zrd s0 1 346 0 (fun (v6 : Int32) => (if v6 = 24 then some ((-4), s0) else zb2 (fX8_comes 1 p1 p2 (fX8_manyOf p1 p3) s0) (fun (v8 : Int32) (s9 : zkS) => some (v8, s9))))))) (fun (J3 : Unit → Option (Int32 × zkS)) => zjn (fun (u11 : Unit) => (if (fX8_in ((p3 : Int32).toInt64) 0 6) = 0 then some ((-2), s0) else J3 ())) (fun (J10 : Unit → Option (Int32 × zkS)) => (if p1 = 2 then J10 () else (if p1 = 5 then J10 () else J3 ()))))))

def fX8_isFollowed (w1 : Nat) (p2 : Int32) (p3 : Int32) (s0 : zkS) : Option (Int32) := zrd s0 w1 346 (20 + p2) (fun (v1 : Int32) => (if v1 = 4 then some 0 else zjn (fun (u3 : Unit) => (if v1 = 6 then (if p3 = 0 then some 1 else zrd s0 w1 346 (44 + p2) (fun (v4 : Int32) => (if (v4 - v4 / 2 * 2) = 1 then some 1 else some 0))) else some 1)) (fun (J2 : Unit → Option (Int32)) => (if v1 = 5 then (if (p3 - p3 / 2 * 2) = 1 then J2 () else some 0) else J2 ()))))

def fX8_leads (w1 : Nat) (p2 : Int32) (p3 : Int32) (s0 : zkS) : Option (Int32) := zb1 (fX8_isFollowed w1 p2 p3 s0) (fun (v1 : Int32) => (if v1 = 0 then some (-5) else zrd s0 w1 346 ((140 + (6 * p2)) + p3) (fun (v2 : Int32) => some v2)))

def fX8_reach_L42 (n : Nat) (w1 : Nat) (s0 : zkS) (x2 : Int32) (x5 : Int32) (x6 : Int32) (x3 : Int32) (x7 : Int32) (K42 : Int32 → Option (Int32)) : Option (Int32) := match n with
  | 0 => none
  | n + 1 => (if (fX8_bit x5 x6) = 0 then K42 x3 else zrd s0 w1 346 (68 + x6) (fun (v4 : Int32) => (if v4 ≤ x7 then K42 x3 else zb1 (fX8_leads w1 x6 x7 s0) (fun (v5 : Int32) => (if v5 < 0 then zlt (x7 + 1) (fun (v6 : Int32) => fX8_reach_L42 n w1 s0 x2 x5 x6 x3 v6 K42) else (if v5 = x2 then zlt (x7 + 1) (fun (v7 : Int32) => fX8_reach_L42 n w1 s0 x2 x5 x6 x3 v7 K42) else zlt (x3 ||| (1 <<< (v5 &&& 31))) (fun (v8 : Int32) => zlt (x7 + 1) (fun (v9 : Int32) => fX8_reach_L42 n w1 s0 x2 x5 x6 v8 v9 K42))))))))
def fX8_reach_L32 (n : Nat) (w1 : Nat) (s0 : zkS) (x2 : Int32) (x5 : Int32) (x3 : Int32) (x6 : Int32) (K32 : Int32 → Option (Int32)) : Option (Int32) := match n with
  | 0 => none
  | n + 1 => (if 24 ≤ x6 then K32 x3 else fX8_reach_L42 zFU w1 s0 x2 x5 x6 x3 0 (fun (x10 : Int32) => zlt (x6 + 1) (fun (v11 : Int32) => fX8_reach_L32 n w1 s0 x2 x5 x10 v11 K32)))
def fX8_reach_L21 (n : Nat) (w1 : Nat) (s0 : zkS) (x2 : Int32) (x3 : Int32) (x4 : Int32) (K21 : Int32 → Option (Int32)) : Option (Int32) := match n with
  | 0 => none
  | n + 1 => (if x4 = 0 then K21 x3 else fX8_reach_L32 zFU w1 s0 x2 x3 x3 0 (fun (x12 : Int32) => (if x12 = x3 then fX8_reach_L21 n w1 s0 x2 x12 0 K21 else fX8_reach_L21 n w1 s0 x2 x12 1 K21)))
def fX8_reach (w1 : Nat) (p2 : Int32) (p3 : Int32) (s0 : zkS) : Option (Int32) := zjn (fun (v2 : Int32) => fX8_reach_L21 zFU w1 s0 p3 v2 1 (fun (x13 : Int32) => some x13)) (fun (J1 : Int32 → Option (Int32)) => (if 24 ≤ p3 then J1 p2 else J1 (p2 &&& ((1 <<< (p3 &&& 31)) ^^^ (-1)))))

def fX8_rooted_L4 (n : Nat) (w1 : Nat) (s0 : zkS) (x1 : Int32) (x2 : Int32) (K4 : Int32 → Option (Int32)) : Option (Int32) := match n with
  | 0 => none
  | n + 1 => (if 4 ≤ x2 then K4 x1 else zrd s0 w1 346 (16 + x2) (fun (v1 : Int32) => (if v1 < 0 then zlt (x1 ||| 0) (fun (v2 : Int32) => zlt (x2 + 1) (fun (v3 : Int32) => fX8_rooted_L4 n w1 s0 v2 v3 K4)) else zrd s0 w1 346 (16 + x2) (fun (v4 : Int32) => zlt (x1 ||| (1 <<< (v4 &&& 31))) (fun (v5 : Int32) => zlt (x2 + 1) (fun (v6 : Int32) => fX8_rooted_L4 n w1 s0 v5 v6 K4))))))
def fX8_rooted (w1 : Nat) (s0 : zkS) : Option (Int32) := fX8_rooted_L4 zFU w1 s0 0 0 (fun (x7 : Int32) => some x7)

def fX8_reached (w1 : Nat) (s0 : zkS) : Option (Int32) := zb1 (fX8_rooted w1 s0) (fun (v1 : Int32) => zb1 (fX8_reach w1 v1 24 s0) (fun (v2 : Int32) => some v2))

def fX8_far_L39 (n : Nat) (w1 : Nat) (s0 : zkS) (x4 : Int32) (x5 : Int32) (x2 : Int32) (x6 : Int32) (K39 : Int32 → Option (Int32)) : Option (Int32) := match n with
  | 0 => none
  | n + 1 => (if (fX8_bit x4 x5) = 0 then K39 x2 else zrd s0 w1 346 (68 + x5) (fun (v4 : Int32) => (if v4 ≤ x6 then K39 x2 else zb1 (fX8_leads w1 x5 x6 s0) (fun (v5 : Int32) => (if v5 < 0 then zlt (x2 ||| 0) (fun (v6 : Int32) => zlt (x6 + 1) (fun (v7 : Int32) => fX8_far_L39 n w1 s0 x4 x5 v6 v7 K39)) else zlt (x2 ||| (1 <<< (v5 &&& 31))) (fun (v8 : Int32) => zlt (x6 + 1) (fun (v9 : Int32) => fX8_far_L39 n w1 s0 x4 x5 v8 v9 K39)))))))
def fX8_far_L29 (n : Nat) (w1 : Nat) (s0 : zkS) (x4 : Int32) (x2 : Int32) (x5 : Int32) (K29 : Int32 → Option (Int32)) : Option (Int32) := match n with
  | 0 => none
  | n + 1 => (if 24 ≤ x5 then K29 x2 else fX8_far_L39 zFU w1 s0 x4 x5 x2 0 (fun (x10 : Int32) => zlt (x5 + 1) (fun (v11 : Int32) => fX8_far_L29 n w1 s0 x4 x10 v11 K29)))
def fX8_far_L7 (n : Nat) (w1 : Nat) (s0 : zkS) (x1 : Int32) (x2 : Int32) (x3 : Int32) (K7 : Unit → Option (Int32)) : Option (Int32) := match n with
  | 0 => none
  | n + 1 => (if 25 ≤ x3 then K7 () else (if (fX8_bit x2 x1) = 0 then fX8_far_L29 zFU w1 s0 x2 x2 0 (fun (x12 : Int32) => zlt (x3 + 1) (fun (v13 : Int32) => fX8_far_L7 n w1 s0 x1 x12 v13 K7)) else some x3))
def fX8_far (w1 : Nat) (p2 : Int32) (s0 : zkS) : Option (Int32) := zb1 (fX8_rooted w1 s0) (fun (v1 : Int32) => fX8_far_L7 zFU w1 s0 p2 v1 0 (fun (_ : Unit) => some (-5)))

def fX8_holders_L13 (n : Nat) (s0 : zkS) (x1 : Int32) (x3 : Int32) (x2 : Int32) (x4 : Int32) (K13 : Int32 → Option (Int32)) : Option (Int32) := match n with
  | 0 => none
  | n + 1 => zb1 (fX8_isField x3 x4 s0) (fun (v1 : Int32) => (if v1 = 0 then K13 x2 else zrd s0 1 346 ((140 + (6 * x3)) + x4) (fun (v2 : Int32) => (if v2 = x1 then zlt (x2 + 1) (fun (v3 : Int32) => zlt (x4 + 1) (fun (v4 : Int32) => fX8_holders_L13 n s0 x1 x3 v3 v4 K13)) else zlt (x2 + 0) (fun (v5 : Int32) => zlt (x4 + 1) (fun (v6 : Int32) => fX8_holders_L13 n s0 x1 x3 v5 v6 K13))))))
def fX8_holders_L4 (n : Nat) (s0 : zkS) (x1 : Int32) (x2 : Int32) (x3 : Int32) (K4 : Int32 → Option (Int32)) : Option (Int32) := match n with
  | 0 => none
  | n + 1 => (if 24 ≤ x3 then K4 x2 else fX8_holders_L13 zFU s0 x1 x3 x2 0 (fun (x7 : Int32) => zlt (x3 + 1) (fun (v8 : Int32) => fX8_holders_L4 n s0 x1 x7 v8 K4)))
def fX8_holders (p1 : Int32) (s0 : zkS) : Option (Int32) := fX8_holders_L4 zFU s0 p1 0 0 (fun (x9 : Int32) => some x9)

def fX8_isReachedCut (p1 : Int32) (p2 : Int32) (p3 : Int32) (s0 : zkS) : Option (Int32 × zkS) := zrd s0 1 346 ((140 + (6 * p1)) + p2) (fun (v1 : Int32) => zwr s0 1 346 ((140 + (6 * p1)) + p2) (-5) (fun (s2 : zkS) => zb1 (fX8_reached 1 s2) (fun (v3 : Int32) => zlt (fX8_bit v3 p3) (fun (v5 : Int32) => zwr s2 1 346 ((140 + (6 * p1)) + p2) v1 (fun (s6 : zkS) => zck v5 (some (v5, s6)))))))

def fX8_cut_L27 (n : Nat) (x1 : Int32) (x2 : Int32) (x3 : Int32) (s4 : zkS) (K27 : zkS → Option (Int32 × zkS)) : Option (Int32 × zkS) := match n with
  | 0 => none
  | n + 1 => zb1 (fX8_isField x2 x3 s4) (fun (v5 : Int32) => (if v5 = 0 then K27 s4 else zb2 (fX8_isReachedCut x2 x3 x1 s4) (fun (v6 : Int32) (s7 : zkS) => (if v6 = 0 then some (((10 * x2) + x3), s7) else zlt (x3 + 1) (fun (v8 : Int32) => fX8_cut_L27 n x1 x2 v8 s7 K27)))))
def fX8_cut_L19 (n : Nat) (x1 : Int32) (x2 : Int32) (s3 : zkS) (K19 : zkS → Option (Int32 × zkS)) : Option (Int32 × zkS) := match n with
  | 0 => none
  | n + 1 => (if 24 ≤ x2 then K19 s3 else fX8_cut_L27 zFU x1 x2 0 s3 (fun (s9 : zkS) => zlt (x2 + 1) (fun (v10 : Int32) => fX8_cut_L19 n x1 v10 s9 K19)))
def fX8_cut (p1 : Int32) (s0 : zkS) : Option (Int32 × zkS) := zb1 (fX8_reached 1 s0) (fun (v1 : Int32) => (if (fX8_bit v1 p1) = 0 then some ((-5), s0) else fX8_cut_L19 zFU p1 0 s0 (fun (s11 : zkS) => some ((-5), s11))))

def fX8_bits_L2 (n : Nat) (x0 : Int32) (x1 : Int32) (K2 : Int32 → Option (Int32)) : Option (Int32) := match n with
  | 0 => none
  | n + 1 => (if x0 ≤ (1 <<< (x1 &&& 31)) then K2 x1 else zlt (x1 + 1) (fun (v1 : Int32) => fX8_bits_L2 n x0 v1 K2))
def fX8_bits (p1 : Int32) : Option (Int32) := fX8_bits_L2 zFU p1 0 (fun (x2 : Int32) => some (1 + x2))

def fX8_flag (p1 : Int32) : Int32 := (if p1 = 0 then 0 else 1)

def fX8_of (p1 : Int32) (p2 : Int32) (s0 : zkS) : Option (Int32 × zkS) := zb1 (fX8_isThere p1 s0) (fun (v1 : Int32) => (if v1 = 0 then some ((-1), s0) else (if p2 = 0 then zrd s0 1 346 (20 + p1) (fun (v2 : Int32) => some (v2, s0)) else (if p2 = 1 then zrd s0 1 346 (44 + p1) (fun (v3 : Int32) => some (v3, s0)) else (if p2 = 2 then zrd s0 1 346 (68 + p1) (fun (v4 : Int32) => some (v4, s0)) else (if p2 = 3 then zrd s0 1 346 12 (fun (v5 : Int32) => some ((fX8_flag (fX8_bit v5 p1)), s0)) else (if p2 = 4 then zrd s0 1 346 (92 + p1) (fun (v8 : Int32) => some (v8, s0)) else (if p2 = 5 then zrd s0 1 346 13 (fun (v9 : Int32) => some ((fX8_flag (fX8_bit v9 p1)), s0)) else (if p2 = 6 then zrd s0 1 346 14 (fun (v12 : Int32) => some ((fX8_flag (fX8_bit v12 p1)), s0)) else (if p2 = 7 then zb1 (fX8_holders p1 s0) (fun (v15 : Int32) => some (v15, s0)) else (if p2 = 8 then zb1 (fX8_far 1 p1 s0) (fun (v16 : Int32) => some (v16, s0)) else (if p2 = 9 then zb1 (fX8_reach 1 (1 <<< (p1 &&& 31)) 24 s0) (fun (v17 : Int32) => some (v17, s0)) else (if p2 = 10 then zb1 (fX8_reached 1 s0) (fun (v18 : Int32) => (if (fX8_bit v18 p1) = 0 then some (0, s0) else zb1 (fX8_reached 1 s0) (fun (v20 : Int32) => zb1 (fX8_rooted 1 s0) (fun (v21 : Int32) => zb1 (fX8_reach 1 v21 p1 s0) (fun (v22 : Int32) => some ((v20 &&& (v22 ^^^ (-1))), s0)))))) else (if p2 = 11 then zb2 (fX8_cut p1 s0) (fun (v23 : Int32) (s24 : zkS) => some (v23, s24)) else (if p2 = 12 then zrd s0 1 346 (68 + p1) (fun (v25 : Int32) => zb1 (fX8_bits v25) (fun (v26 : Int32) => some (v26, s0))) else some ((-1), s0))))))))))))))))

def fX8_field (p1 : Int32) (p2 : Int32) (s0 : zkS) : Option (Int32) := zb1 (fX8_isField p1 p2 s0) (fun (v1 : Int32) => (if v1 = 0 then some (-1) else zrd s0 1 346 ((140 + (6 * p1)) + p2) (fun (v2 : Int32) => some v2)))

def fX8_turnedNow (w1 : Nat) (s0 : zkS) : Option (Int32) := zrd s0 w1 346 2 (fun (v1 : Int32) => (if v1 = 0 then some 0 else zrd s0 w1 346 6 (fun (v2 : Int32) => zrd s0 w1 346 3 (fun (v3 : Int32) => zlt (v2 - v3) (fun (v4 : Int32) => some (if 0 < v4 then v4 else 0))))))

def fX8_back (w1 : Nat) (s0 : zkS) : Option (Int32) := zb1 (fX8_turnedNow w1 s0) (fun (v1 : Int32) => (if v1 = 0 then some (-5) else zrd s0 w1 346 6 (fun (v2 : Int32) => zrd s0 w1 346 ((116 + v2) - 1) (fun (v3 : Int32) => some v3))))

def fX8_turnedAt_L7 (n : Nat) (s0 : zkS) (x1 : Int32) (x2 : Int32) (K7 : Unit → Option (Int32)) : Option (Int32) := match n with
  | 0 => none
  | n + 1 => zrd s0 1 346 2 (fun (v2 : Int32) => (if v2 = 1 then zrd s0 1 346 6 (fun (v3 : Int32) => (if v3 ≤ x2 then K7 () else zrd s0 1 346 (116 + x2) (fun (v4 : Int32) => (if v4 = x1 then some x2 else zlt (x2 + 1) (fun (v5 : Int32) => fX8_turnedAt_L7 n s0 x1 v5 K7))))) else K7 ()))
def fX8_turnedAt (p1 : Int32) (s0 : zkS) : Option (Int32) := zrd s0 1 346 3 (fun (v1 : Int32) => fX8_turnedAt_L7 zFU s0 p1 v1 (fun (_ : Unit) => some (-5)))

def fX8_raw (p1 : Int32) (p2 : Int32) (s0 : zkS) : Option (Int32) := zb1 (fX8_isField p1 p2 s0) (fun (v1 : Int32) => (if v1 = 0 then some (-1) else zb1 (fX8_turnedAt p1 s0) (fun (v2 : Int32) => zjn (fun (u4 : Unit) => zrd s0 1 346 ((140 + (6 * p1)) + p2) (fun (v5 : Int32) => some v5)) (fun (J3 : Unit → Option (Int32)) => (if v2 < 0 then J3 () else zrd s0 1 346 (92 + p1) (fun (v6 : Int32) => (if v6 = p2 then zrd s0 1 346 3 (fun (v7 : Int32) => (if v2 = v7 then some (-5) else zrd s0 1 346 ((116 + v2) - 1) (fun (v8 : Int32) => some v8))) else J3 ())))))))

def fX8_hold (p1 : Int32) (p2 : Int32) (p3 : Int32) (s0 : zkS) : Option (Int32 × zkS) := zb1 (fX8_isField p1 p2 s0) (fun (v1 : Int32) => (if v1 = 0 then some ((-1), s0) else zjn (fun (u3 : Unit) => zrd s0 1 346 2 (fun (v4 : Int32) => (if v4 = 1 then some ((-3), s0) else zrd s0 1 346 ((140 + (6 * p1)) + p2) (fun (v5 : Int32) => (if p3 = (-1) then zwr s0 1 346 ((140 + (6 * p1)) + p2) (-5) (fun (s6 : zkS) => zwr s6 1 346 15 0 (fun (s7 : zkS) => some (v5, s7))) else zwr s0 1 346 ((140 + (6 * p1)) + p2) p3 (fun (s8 : zkS) => zwr s8 1 346 15 0 (fun (s9 : zkS) => some (v5, s9)))))))) (fun (J2 : Unit → Option (Int32 × zkS)) => (if p3 = (-1) then J2 () else zb1 (fX8_isThere p3 s0) (fun (v10 : Int32) => (if v10 = 0 then some ((-1), s0) else J2 ()))))))

def fX8_tag (p1 : Int32) (p2 : Int32) (s0 : zkS) : Option (Int32 × zkS) := zb1 (fX8_isThere p1 s0) (fun (v1 : Int32) => (if v1 = 0 then some ((-1), s0) else (if (fX8_in ((p2 : Int32).toInt64) 0 9) = 0 then some ((-2), s0) else zrd s0 1 346 2 (fun (v3 : Int32) => (if v3 = 1 then some ((-3), s0) else zrd s0 1 346 (44 + p1) (fun (v4 : Int32) => zwr s0 1 346 (44 + p1) p2 (fun (s5 : zkS) => zwr s5 1 346 15 0 (fun (s6 : zkS) => some (v4, s6)))))))))

def fX8_root (p1 : Int32) (p2 : Int32) (s0 : zkS) : Option (Int32 × zkS) := (if (fX8_in ((p1 : Int32).toInt64) 0 3) = 0 then some ((-1), s0) else zjn (fun (u3 : Unit) => zrd s0 1 346 2 (fun (v4 : Int32) => (if v4 = 1 then some ((-3), s0) else zrd s0 1 346 (16 + p1) (fun (v5 : Int32) => (if p2 = (-1) then zwr s0 1 346 (16 + p1) (-5) (fun (s6 : zkS) => zwr s6 1 346 15 0 (fun (s7 : zkS) => some (v5, s7))) else zwr s0 1 346 (16 + p1) p2 (fun (s8 : zkS) => zwr s8 1 346 15 0 (fun (s9 : zkS) => some (v5, s9)))))))) (fun (J2 : Unit → Option (Int32 × zkS)) => (if p2 = (-1) then J2 () else zb1 (fX8_isThere p2 s0) (fun (v10 : Int32) => (if v10 = 0 then some ((-1), s0) else J2 ())))))

def fX8_pin (p1 : Int32) (p2 : Int32) (s0 : zkS) : Option (Int32 × zkS) := zb1 (fX8_isThere p1 s0) (fun (v1 : Int32) => (if v1 = 0 then some ((-1), s0) else zb1 (fX8_turnedAt p1 s0) (fun (v2 : Int32) => (if v2 < 0 then zrd s0 1 346 14 (fun (v3 : Int32) => zlt (fX8_flag (fX8_bit v3 p1)) (fun (v6 : Int32) => (if p2 = 0 then zrd s0 1 346 14 (fun (v7 : Int32) => zwr s0 1 346 14 (v7 &&& ((1 <<< (p1 &&& 31)) ^^^ (-1))) (fun (s8 : zkS) => some (v6, s8))) else zrd s0 1 346 14 (fun (v9 : Int32) => zwr s0 1 346 14 (v9 ||| (1 <<< (p1 &&& 31))) (fun (s10 : zkS) => some (v6, s10)))))) else some ((-3), s0)))))

def fX8_feed (p1 : Int32) (s0 : zkS) : Option (Int32 × zkS) := (if (fX8_in ((p1 : Int32).toInt64) 0 127) = 0 then some ((-2), s0) else (if (s0.1 0 5) = 100 then some ((-4), s0) else zwr s0 4 100 (s0.1 0 5) p1 (fun (s2 : zkS) => zpi s2 0 5 ((s2.1 0 5) + 1) (fun (s3 : zkS) => some ((s3.1 0 5), s3)))))

def fX8_isNew (p1 : Int32) (p2 : Int32) (s0 : zkS) : Option (Int32 × zkS) := zwr s0 8 101 (s0.1 0 13) p1 (fun (s1 : zkS) => zwr s1 9 101 (s1.1 0 13) p2 (fun (s2 : zkS) => zwr s2 10 101 (s2.1 0 13) 0 (fun (s3 : zkS) => zpi s3 0 13 ((s3.1 0 13) + 1) (fun (s4 : zkS) => some (((s4.1 0 13) - 1), s4)))))

def fX8_gives (p1 : Int32) (s0 : zkS) : Option (zkS) := (if (s0.1 0 14) = 0 then zpi s0 0 15 p1 (fun (s1 : zkS) => zpi s1 0 16 1 (fun (s2 : zkS) => some s2)) else zrd s0 5 8 ((s0.1 0 14) - 1) (fun (v3 : Int32) => zrd s0 10 101 v3 (fun (v4 : Int32) => zwr s0 11 606 ((6 * v3) + v4) p1 (fun (s5 : zkS) => zrd s5 10 101 v3 (fun (v6 : Int32) => zwr s5 10 101 v3 (v6 + 1) (fun (s7 : zkS) => zwr s7 7 8 ((s7.1 0 14) - 1) 1 (fun (s8 : zkS) => some s8)))))))

def fX8_begins (p1 : Int32) (s0 : zkS) : Option (Int32 × zkS) := (if (fX8_in ((p1 : Int32).toInt64) 48 57) = 0 then (if (fX8_in ((p1 : Int32).toInt64) 97 120) = 0 then (if (fX8_in ((p1 : Int32).toInt64) 65 70) = 0 then (if p1 = 126 then zb1 (fX8_gives (-5) s0) (fun (s4 : zkS) => some (1, s4)) else zjn (fun (u6 : Unit) => (if (s0.1 0 14) = 6 then some (0, s0) else zjn (fun (v8 : Int32) => zb2 (fX8_isNew v8 0 s0) (fun (v9 : Int32) (s10 : zkS) => zwr s10 5 8 (s0.1 0 14) v9 (fun (s11 : zkS) => zwr s11 6 8 (s11.1 0 14) p1 (fun (s12 : zkS) => zwr s12 7 8 (s12.1 0 14) 0 (fun (s13 : zkS) => zpi s13 0 14 ((s13.1 0 14) + 1) (fun (s14 : zkS) => some (1, s14))))))) (fun (J7 : Int32 → Option (Int32 × zkS)) => (if p1 = 40 then J7 1 else (if p1 = 91 then J7 2 else J7 3))))) (fun (J5 : Unit → Option (Int32 × zkS)) => (if p1 = 40 then J5 () else (if p1 = 91 then J5 () else (if p1 = 60 then J5 () else some (0, s0)))))) else zlt (((s0.1 0 14) - 1) - (p1 - 65)) (fun (v15 : Int32) => (if v15 < 0 then (if v15 < 0 then some (0, s0) else some (1, s0)) else zrd s0 5 8 v15 (fun (v16 : Int32) => zb1 (fX8_gives (100 + v16) s0) (fun (s17 : zkS) => (if v15 < 0 then some (0, s17) else some (1, s17))))))) else zb1 (fX8_isThere (p1 - 97) s0) (fun (v18 : Int32) => (if v18 = 0 then zck v18 (some (v18, s0)) else zb1 (fX8_gives (p1 - 97) s0) (fun (s19 : zkS) => zck v18 (some (v18, s19)))))) else zb2 (fX8_isNew 0 (p1 - 48) s0) (fun (v20 : Int32) (s21 : zkS) => zb1 (fX8_gives (100 + v20) s21) (fun (s22 : zkS) => some (1, s22))))

def fX8_shuts (s0 : zkS) : Option (zkS) := zpi s0 0 14 ((s0.1 0 14) - 1) (fun (s1 : zkS) => zrd s1 5 8 (s1.1 0 14) (fun (v2 : Int32) => zb1 (fX8_gives (100 + v2) s1) (fun (s3 : zkS) => some s3)))

def fX8_takes (p1 : Int32) (s0 : zkS) : Option (Int32 × zkS) := (if (s0.1 0 16) = 0 then (if (s0.1 0 14) = 0 then zb2 (fX8_begins p1 s0) (fun (v1 : Int32) (s2 : zkS) => zck v1 (some (v1, s2))) else zrd s0 6 8 ((s0.1 0 14) - 1) (fun (v3 : Int32) => zrd s0 7 8 ((s0.1 0 14) - 1) (fun (v4 : Int32) => zrd s0 5 8 ((s0.1 0 14) - 1) (fun (v5 : Int32) => zrd s0 10 101 v5 (fun (v6 : Int32) => (if v4 = 1 then zjn (fun (u8 : Unit) => zwr s0 7 8 ((s0.1 0 14) - 1) 2 (fun (s9 : zkS) => some (1, s9))) (fun (J7 : Unit → Option (Int32 × zkS)) => zjn (fun (u11 : Unit) => zjn (fun (u13 : Unit) => zjn (fun (u15 : Unit) => zjn (fun (u17 : Unit) => (if v3 = 60 then (if p1 = 62 then (if (1 : Int32) = 0 then some (1, s0) else zb1 (fX8_shuts s0) (fun (s18 : zkS) => some (1, s18))) else (if (0 : Int32) = 0 then some (0, s0) else zb1 (fX8_shuts s0) (fun (s19 : zkS) => some (0, s19)))) else (if (0 : Int32) = 0 then some (0, s0) else zb1 (fX8_shuts s0) (fun (s20 : zkS) => some (0, s20))))) (fun (J16 : Unit → Option (Int32 × zkS)) => (if v3 = 91 then (if p1 = 93 then (if (1 : Int32) = 0 then some (1, s0) else zb1 (fX8_shuts s0) (fun (s21 : zkS) => some (1, s21))) else J16 ()) else J16 ()))) (fun (J14 : Unit → Option (Int32 × zkS)) => (if v3 = 40 then (if v6 = 2 then (if p1 = 41 then (if (1 : Int32) = 0 then some (1, s0) else zb1 (fX8_shuts s0) (fun (s22 : zkS) => some (1, s22))) else J14 ()) else J14 ()) else J14 ()))) (fun (J12 : Unit → Option (Int32 × zkS)) => (if v3 = 91 then (if 6 ≤ v6 then J12 () else (if p1 = 44 then J7 () else J12 ())) else J12 ()))) (fun (J10 : Unit → Option (Int32 × zkS)) => (if v3 = 40 then (if v6 = 1 then (if p1 = 46 then J7 () else J10 ()) else J10 ()) else J10 ()))) else (if v4 = 0 then (if v3 = 91 then (if p1 = 93 then zb1 (fX8_shuts s0) (fun (s23 : zkS) => some (1, s23)) else zb2 (fX8_begins p1 s0) (fun (v24 : Int32) (s25 : zkS) => zck v24 (some (v24, s25)))) else zb2 (fX8_begins p1 s0) (fun (v26 : Int32) (s27 : zkS) => zck v26 (some (v26, s27)))) else zb2 (fX8_begins p1 s0) (fun (v28 : Int32) (s29 : zkS) => zck v28 (some (v28, s29)))))))))) else some (0, s0))

def fX8_told (p1 : Int32) (p2 : Int32) : Int32 := (if p1 < 100 then p1 else ((p2 + p1) - 100))

def fX8_build_L54 (n : Nat) (x2 : Int32) (x3 : Int32) (s7 : zkS) (K54 : zkS → Option (Int32 × zkS)) : Option (Int32 × zkS) := match n with
  | 0 => none
  | n + 1 => (if x2 ≤ x3 then K54 s7 else zrd s7 4 100 x3 (fun (v8 : Int32) => zb2 (fX8_takes v8 s7) (fun (v9 : Int32) (s10 : zkS) => (if v9 = 0 then some (((-10) - x3), s10) else zlt (x3 + 1) (fun (v11 : Int32) => fX8_build_L54 n x2 v11 s10 K54)))))
def fX8_build_L161 (n : Nat) (x3 : Int32) (x4 : Int32) (x5 : Int32) (x6 : Int32) (s20 : zkS) (K161 : zkS → Option (Int32 × zkS)) : Option (Int32 × zkS) := match n with
  | 0 => none
  | n + 1 => zrd s20 10 101 x4 (fun (v21 : Int32) => (if v21 ≤ x6 then K161 s20 else zrd s20 11 606 ((6 * x4) + x6) (fun (v22 : Int32) => zwr s20 1 346 ((140 + (6 * x5)) + x6) (fX8_told v22 x3) (fun (s24 : zkS) => zlt (x6 + 1) (fun (v25 : Int32) => fX8_build_L161 n x3 x4 x5 v25 s24 K161)))))
def fX8_build_L119 (n : Nat) (x3 : Int32) (x4 : Int32) (s14 : zkS) (K119 : zkS → Option (Int32 × zkS)) : Option (Int32 × zkS) := match n with
  | 0 => none
  | n + 1 => (if (s14.1 0 13) ≤ x4 then K119 s14 else zrd s14 8 101 x4 (fun (v15 : Int32) => zrd s14 9 101 x4 (fun (v16 : Int32) => zrd s14 10 101 x4 (fun (v17 : Int32) => zb2 (fX8_comes 1 v15 v16 v17 s14) (fun (v18 : Int32) (s19 : zkS) => fX8_build_L161 zFU x3 x4 v18 0 s19 (fun (s26 : zkS) => zlt (x4 + 1) (fun (v27 : Int32) => fX8_build_L119 n x3 v27 s26 K119)))))))
def fX8_build (p1 : Int32) (s0 : zkS) : Option (Int32 × zkS) := (if (fX8_in ((p1 : Int32).toInt64) 0 3) = 0 then some ((-1), s0) else zrd s0 1 346 2 (fun (v2 : Int32) => (if v2 = 1 then some ((-3), s0) else zpi s0 0 5 0 (fun (s3 : zkS) => zpi s3 0 13 0 (fun (s4 : zkS) => zpi s4 0 14 0 (fun (s5 : zkS) => zpi s5 0 16 0 (fun (s6 : zkS) => fX8_build_L54 zFU (s0.1 0 5) 0 s6 (fun (s12 : zkS) => (if (s12.1 0 16) = 0 then some (((-10) - (s0.1 0 5)), s12) else zrd s12 1 346 0 (fun (v13 : Int32) => (if (v13 + (s12.1 0 13)) ≤ 24 then fX8_build_L119 zFU v13 0 s12 (fun (s28 : zkS) => zwr s28 1 346 (16 + p1) (fX8_told (s28.1 0 15) v13) (fun (s30 : zkS) => zwr s30 1 346 15 0 (fun (s31 : zkS) => some ((s31.1 0 13), s31)))) else some ((-4), s12))))))))))))

def fX8_starts (w1 : Nat) (p2 : Int32) (s0 : zkS) : Option (zkS) := zwr s0 w1 346 2 1 (fun (s1 : zkS) => zwr s1 w1 346 3 p2 (fun (s2 : zkS) => zwr s2 w1 346 4 (-5) (fun (s3 : zkS) => zwr s3 w1 346 5 0 (fun (s4 : zkS) => zwr s4 w1 346 6 0 (fun (s5 : zkS) => zwr s5 w1 346 7 0 (fun (s6 : zkS) => zwr s6 w1 346 8 0 (fun (s7 : zkS) => zwr s7 w1 346 9 0 (fun (s8 : zkS) => zwr s8 w1 346 10 0 (fun (s9 : zkS) => zwr s9 w1 346 11 0 (fun (s10 : zkS) => zwr s10 w1 346 12 0 (fun (s11 : zkS) => zwr s11 w1 346 13 0 (fun (s12 : zkS) => zwr s12 w1 346 15 0 (fun (s13 : zkS) => some s13)))))))))))))

def fX8_marks (w1 : Nat) (p2 : Int32) (s0 : zkS) : Option (zkS) := zrd s0 w1 346 12 (fun (v1 : Int32) => zwr s0 w1 346 12 (v1 ||| (1 <<< (p2 &&& 31))) (fun (s2 : zkS) => zwr s2 w1 346 (92 + p2) 0 (fun (s3 : zkS) => some s3)))

def fX8_stepAtNone_L50 (n : Nat) (w1 : Nat) (x1 : Int32) (s2 : zkS) (K50 : zkS → Option (zkS)) : Option (zkS) := match n with
  | 0 => none
  | n + 1 => (if 24 ≤ x1 then K50 s2 else zrd s2 w1 346 13 (fun (v3 : Int32) => (if (fX8_bit v3 x1) = 0 then zlt (x1 + 1) (fun (v5 : Int32) => fX8_stepAtNone_L50 n w1 v5 s2 K50) else zrd s2 w1 346 13 (fun (v6 : Int32) => zwr s2 w1 346 13 (v6 &&& ((1 <<< (x1 &&& 31)) ^^^ (-1))) (fun (s7 : zkS) => zwr s7 w1 346 4 x1 (fun (s8 : zkS) => zwr s8 w1 346 (92 + x1) 0 (fun (s9 : zkS) => some s9)))))))
def fX8_stepAtNone (w1 : Nat) (s0 : zkS) : Option (zkS) := zrd s0 w1 346 5 (fun (v1 : Int32) => (if 4 ≤ v1 then fX8_stepAtNone_L50 zFU w1 0 s0 (fun (s10 : zkS) => zwr s10 w1 346 2 0 (fun (s11 : zkS) => zwr s11 w1 346 15 1 (fun (s12 : zkS) => some s12))) else zrd s0 w1 346 5 (fun (v13 : Int32) => zrd s0 w1 346 (16 + v13) (fun (v14 : Int32) => zrd s0 w1 346 5 (fun (v15 : Int32) => zwr s0 w1 346 5 (v15 + 1) (fun (s16 : zkS) => (if v14 < 0 then some s16 else zrd s16 w1 346 12 (fun (v17 : Int32) => (if (fX8_bit v17 v14) = 0 then zb1 (fX8_marks w1 v14 s16) (fun (s19 : zkS) => zwr s19 w1 346 4 v14 (fun (s20 : zkS) => some s20)) else some s16)))))))))

def fX8_goesDown (w1 : Nat) (p2 : Int32) (p3 : Int32) (s0 : zkS) : Option (zkS) := zb1 (fX8_marks w1 p3 s0) (fun (s1 : zkS) => zrd s1 w1 346 6 (fun (v2 : Int32) => zrd s1 w1 346 3 (fun (v3 : Int32) => zjn (fun (v5 : Int32) => zjn (fun (u7 : Unit) => zrd s1 w1 346 9 (fun (v8 : Int32) => zjn (fun (v10 : Int32) => zwr s1 w1 346 9 (v8 + v10) (fun (s11 : zkS) => zrd s11 w1 346 8 (fun (v12 : Int32) => zjn (fun (v14 : Int32) => zwr s11 w1 346 8 (v12 + v14) (fun (s15 : zkS) => zrd s15 w1 346 6 (fun (v16 : Int32) => zwr s15 w1 346 (116 + v16) p2 (fun (s17 : zkS) => zrd s17 w1 346 6 (fun (v18 : Int32) => zwr s17 w1 346 6 (v18 + 1) (fun (s19 : zkS) => zwr s19 w1 346 4 p3 (fun (s20 : zkS) => zrd s20 w1 346 11 (fun (v21 : Int32) => zrd s20 w1 346 6 (fun (v22 : Int32) => zwr s20 w1 346 11 (if v21 < v22 then v22 else v21) (fun (s23 : zkS) => some s23)))))))))) (fun (J13 : Int32 → Option (zkS)) => (if v5 = 0 then J13 1 else J13 0))))) (fun (J9 : Int32 → Option (zkS)) => (if v5 = 0 then J9 0 else J9 1)))) (fun (J6 : Unit → Option (zkS)) => (if v5 = 0 then zrd s1 w1 346 14 (fun (v24 : Int32) => (if (fX8_bit v24 p2) = 0 then J6 () else zrd s1 w1 346 13 (fun (v26 : Int32) => zwr s1 w1 346 13 (v26 ||| (1 <<< (p3 &&& 31))) (fun (s27 : zkS) => zrd s27 w1 346 10 (fun (v28 : Int32) => zwr s27 w1 346 10 (v28 + 1) (fun (s29 : zkS) => zlt (92 + p2) (fun (v30 : Int32) => zrd s29 w1 346 v30 (fun (v31 : Int32) => zwr s29 w1 346 v30 (v31 + 1) (fun (s32 : zkS) => some s32))))))))) else J6 ()))) (fun (J4 : Int32 → Option (zkS)) => (if v3 ≤ v2 then J4 0 else J4 1)))))

def fX8_goesUp (w1 : Nat) (s0 : zkS) : Option (zkS) := zrd s0 w1 346 6 (fun (v1 : Int32) => (if v1 = 0 then zwr s0 w1 346 4 (-5) (fun (s2 : zkS) => some s2) else zrd s0 w1 346 6 (fun (v3 : Int32) => zwr s0 w1 346 6 (v3 - 1) (fun (s4 : zkS) => zrd s4 w1 346 6 (fun (v5 : Int32) => zrd s4 w1 346 (116 + v5) (fun (v6 : Int32) => zwr s4 w1 346 4 v6 (fun (s7 : zkS) => zrd s7 w1 346 4 (fun (v8 : Int32) => zlt (92 + v8) (fun (v9 : Int32) => zrd s7 w1 346 v9 (fun (v10 : Int32) => zwr s7 w1 346 v9 (v10 + 1) (fun (s11 : zkS) => some s11)))))))))))

def fX8_steps (w1 : Nat) (s0 : zkS) : Option (zkS) := zrd s0 w1 346 4 (fun (v1 : Int32) => zrd s0 w1 346 7 (fun (v2 : Int32) => zwr s0 w1 346 7 (v2 + 1) (fun (s3 : zkS) => (if 0 ≤ v1 then zrd s3 w1 346 (92 + v1) (fun (v4 : Int32) => zrd s3 w1 346 (68 + v1) (fun (v5 : Int32) => (if v5 ≤ v4 then zb1 (fX8_goesUp w1 s3) (fun (s6 : zkS) => some s6) else zrd s3 w1 346 (92 + v1) (fun (v7 : Int32) => zb1 (fX8_leads w1 v1 v7 s3) (fun (v8 : Int32) => zjn (fun (u10 : Unit) => zlt (92 + v1) (fun (v11 : Int32) => zrd s3 w1 346 v11 (fun (v12 : Int32) => zwr s3 w1 346 v11 (v12 + 1) (fun (s13 : zkS) => some s13)))) (fun (J9 : Unit → Option (zkS)) => (if v8 < 0 then J9 () else zrd s3 w1 346 12 (fun (v14 : Int32) => (if (fX8_bit v14 v8) = 0 then zb1 (fX8_goesDown w1 v1 v8 s3) (fun (s16 : zkS) => some s16) else J9 ()))))))))) else zb1 (fX8_stepAtNone w1 s3) (fun (s17 : zkS) => some s17)))))

def fX8_goes_L2 (n : Nat) (w1 : Nat) (x1 : Int32) (x2 : Int32) (s1 : zkS) (K2 : Int32 → zkS → Option (Int32 × zkS)) : Option (Int32 × zkS) := match n with
  | 0 => none
  | n + 1 => (if x1 ≤ x2 then K2 x2 s1 else zrd s1 w1 346 2 (fun (v2 : Int32) => (if v2 = 1 then zb1 (fX8_steps w1 s1) (fun (s3 : zkS) => zlt (x2 + 1) (fun (v4 : Int32) => fX8_goes_L2 n w1 x1 v4 s3 K2)) else K2 x2 s1)))
def fX8_goes (w1 : Nat) (p2 : Int32) (s0 : zkS) : Option (Int32 × zkS) := fX8_goes_L2 zFU w1 p2 0 s0 (fun (x5 : Int32) (s6 : zkS) => some (x5, s6))

def fX8_there (s0 : zkS) : Option (Int32) := zrd s0 1 346 1 (fun (v1 : Int32) => some (fJ6_bitCount_0f7a4 v1))

def fX8_begin (p1 : Int32) (s0 : zkS) : Option (Int32 × zkS) := (if (fX8_in ((p1 : Int32).toInt64) 0 8) = 0 then some ((-2), s0) else zrd s0 1 346 2 (fun (v2 : Int32) => (if v2 = 1 then some ((-3), s0) else zb1 (fX8_starts 1 p1 s0) (fun (s3 : zkS) => zb1 (fX8_there s3) (fun (v4 : Int32) => some (v4, s3))))))

def fX8_step (p1 : Int32) (s0 : zkS) : Option (Int32 × zkS) := (if (fX8_in ((p1 : Int32).toInt64) 0 99) = 0 then some ((-2), s0) else zrd s0 1 346 2 (fun (v2 : Int32) => (if v2 = 0 then some ((-3), s0) else zb2 (fX8_goes 1 p1 s0) (fun (v3 : Int32) (s4 : zkS) => some (v3, s4)))))

def fX8_leave (s0 : zkS) : Option (Int32 × zkS) := zrd s0 1 346 2 (fun (v1 : Int32) => (if v1 = 0 then some ((-3), s0) else zb1 (fX8_turnedNow 1 s0) (fun (v2 : Int32) => zwr s0 1 346 2 0 (fun (s3 : zkS) => some (v2, s3)))))

def fX8_sweep_L48 (n : Nat) (x1 : Int32) (x2 : Int32) (s8 : zkS) (K48 : zkS → Option (Int32 × zkS)) : Option (Int32 × zkS) := match n with
  | 0 => none
  | n + 1 => (if 144 ≤ x2 then K48 s8 else zrd s8 1 346 (140 + x2) (fun (v9 : Int32) => (if v9 < 0 then zrd s8 1 346 (140 + x2) (fun (v10 : Int32) => zwr s8 1 346 (140 + x2) v10 (fun (s11 : zkS) => zlt (x2 + 1) (fun (v12 : Int32) => fX8_sweep_L48 n x1 v12 s11 K48))) else zrd s8 1 346 (140 + x2) (fun (v13 : Int32) => (if (fX8_bit x1 v13) = 0 then zrd s8 1 346 (140 + x2) (fun (v15 : Int32) => zwr s8 1 346 (140 + x2) v15 (fun (s16 : zkS) => zlt (x2 + 1) (fun (v17 : Int32) => fX8_sweep_L48 n x1 v17 s16 K48))) else zwr s8 1 346 (140 + x2) (-5) (fun (s18 : zkS) => zlt (x2 + 1) (fun (v19 : Int32) => fX8_sweep_L48 n x1 v19 s18 K48)))))))
def fX8_sweep_L126 (n : Nat) (x1 : Int32) (x2 : Int32) (x3 : Int32) (s22 : zkS) (K126 : zkS → Option (Int32 × zkS)) : Option (Int32 × zkS) := match n with
  | 0 => none
  | n + 1 => (if (fX8_bit x1 x2) = 0 then K126 s22 else (if 6 ≤ x3 then K126 s22 else zwr s22 1 346 ((140 + (6 * x2)) + x3) (-5) (fun (s24 : zkS) => zlt (x3 + 1) (fun (v25 : Int32) => fX8_sweep_L126 n x1 x2 v25 s24 K126))))
def fX8_sweep_L118 (n : Nat) (x1 : Int32) (x2 : Int32) (s21 : zkS) (K118 : zkS → Option (Int32 × zkS)) : Option (Int32 × zkS) := match n with
  | 0 => none
  | n + 1 => (if 24 ≤ x2 then K118 s21 else fX8_sweep_L126 zFU x1 x2 0 s21 (fun (s26 : zkS) => zlt (x2 + 1) (fun (v27 : Int32) => fX8_sweep_L118 n x1 v27 s26 K118)))
def fX8_sweep (s0 : zkS) : Option (Int32 × zkS) := zrd s0 1 346 15 (fun (v1 : Int32) => (if v1 = 0 then some ((-3), s0) else zrd s0 1 346 1 (fun (v2 : Int32) => zrd s0 1 346 12 (fun (v3 : Int32) => zlt (v2 &&& (v3 ^^^ (-1))) (fun (v4 : Int32) => zrd s0 1 346 1 (fun (v5 : Int32) => zrd s0 1 346 12 (fun (v6 : Int32) => zwr s0 1 346 1 (v5 &&& v6) (fun (s7 : zkS) => fX8_sweep_L48 zFU v4 0 s7 (fun (s20 : zkS) => fX8_sweep_L118 zFU v4 0 s20 (fun (s28 : zkS) => zwr s28 1 346 12 0 (fun (s29 : zkS) => zwr s29 1 346 15 0 (fun (s30 : zkS) => some ((fJ6_bitCount_0f7a4 v4), s30)))))))))))))

def fX8_left_L13 (n : Nat) (x1 : Int32) (s2 : zkS) (K13 : Int32 → zkS → Option (Int32 × zkS)) : Option (Int32 × zkS) := match n with
  | 0 => none
  | n + 1 => zrd s2 2 346 2 (fun (v3 : Int32) => (if v3 = 1 then zb1 (fX8_steps 2 s2) (fun (s4 : zkS) => zlt (x1 + 1) (fun (v5 : Int32) => fX8_left_L13 n v5 s4 K13)) else K13 x1 s2))
def fX8_left (s0 : zkS) : Option (Int32 × zkS) := zb1 (fX8_copies 1 2 s0) (fun (s1 : zkS) => fX8_left_L13 zFU 0 s1 (fun (x6 : Int32) (s7 : zkS) => some (x6, s7)))

def fX8_told_ (p1 : Int32) (s0 : zkS) : Option (Int32 × zkS) := zrd s0 1 346 2 (fun (v1 : Int32) => zjn (fun (v3 : Int32) => (if p1 = 0 then some ((fX8_flag v3), s0) else (if p1 = 1 then (if v3 = 0 then some ((-5), s0) else zrd s0 1 346 4 (fun (v5 : Int32) => some (v5, s0))) else (if p1 = 2 then zb1 (fX8_back 1 s0) (fun (v6 : Int32) => some (v6, s0)) else (if p1 = 3 then zrd s0 1 346 7 (fun (v7 : Int32) => some (v7, s0)) else (if p1 = 4 then zrd s0 1 346 8 (fun (v8 : Int32) => some (v8, s0)) else (if p1 = 5 then zrd s0 1 346 9 (fun (v9 : Int32) => some (v9, s0)) else (if p1 = 6 then zrd s0 1 346 10 (fun (v10 : Int32) => some (v10, s0)) else (if p1 = 7 then zrd s0 1 346 11 (fun (v11 : Int32) => some (v11, s0)) else (if p1 = 8 then zrd s0 1 346 12 (fun (v12 : Int32) => some (v12, s0)) else (if p1 = 9 then zrd s0 1 346 13 (fun (v13 : Int32) => some (v13, s0)) else (if p1 = 10 then zb1 (fX8_reached 1 s0) (fun (v14 : Int32) => some (v14, s0)) else (if p1 = 11 then zb2 (fX8_left s0) (fun (v15 : Int32) (s16 : zkS) => some (v15, s16)) else (if p1 = 12 then (if v3 = 0 then some (0, s0) else zrd s0 1 346 6 (fun (v17 : Int32) => zrd s0 1 346 3 (fun (v18 : Int32) => some ((if v18 < v17 then v18 else v17), s0)))) else (if p1 = 13 then zrd s0 1 346 1 (fun (v19 : Int32) => some (v19, s0)) else (if p1 = 14 then zrd s0 1 346 15 (fun (v20 : Int32) => some (v20, s0)) else (if (fX8_in ((p1 : Int32).toInt64) 15 18) = 0 then some ((-1), s0) else zrd s0 1 346 ((16 + p1) - 15) (fun (v22 : Int32) => some (v22, s0))))))))))))))))))) (fun (J2 : Int32 → Option (Int32 × zkS)) => (if v1 = 1 then J2 1 else J2 0)))

def fX8_on (p1 : Int32) (p2 : Int32) (s0 : zkS) : Option (Int32 × zkS) := (if (fX8_in ((p2 : Int32).toInt64) 0 4) = 0 then some ((-1), s0) else (if (fX8_in ((p1 : Int32).toInt64) 0 400) = 0 then some ((-2), s0) else zb1 (fX8_copies 1 2 s0) (fun (s3 : zkS) => zb2 (fX8_goes 2 p1 s3) (fun (v4 : Int32) (s5 : zkS) => (if p2 = 0 then zrd s5 2 346 2 (fun (v6 : Int32) => (if v6 = 1 then zrd s5 2 346 4 (fun (v7 : Int32) => some (v7, s5)) else some ((-5), s5))) else (if p2 = 1 then zb1 (fX8_back 2 s5) (fun (v8 : Int32) => some (v8, s5)) else (if p2 = 2 then zrd s5 2 346 12 (fun (v9 : Int32) => some (v9, s5)) else (if p2 = 3 then zb1 (fX8_turnedNow 2 s5) (fun (v10 : Int32) => some (v10, s5)) else zrd s5 2 346 7 (fun (v11 : Int32) => some (v11, s5))))))))))

def fX8_needs_L19 (n : Nat) (s3 : zkS) (K19 : zkS → Option (Int32 × zkS)) : Option (Int32 × zkS) := match n with
  | 0 => none
  | n + 1 => zrd s3 2 346 2 (fun (v4 : Int32) => (if v4 = 1 then zb1 (fX8_steps 2 s3) (fun (s5 : zkS) => fX8_needs_L19 n s5 K19) else K19 s3))
def fX8_needs (p1 : Int32) (p2 : Int32) (s0 : zkS) : Option (Int32 × zkS) := zb1 (fX8_copies 1 2 s0) (fun (s1 : zkS) => zb1 (fX8_starts 2 p1 s1) (fun (s2 : zkS) => fX8_needs_L19 zFU s2 (fun (s6 : zkS) => zrd s6 2 346 (7 + p2) (fun (v7 : Int32) => some (v7, s6)))))

def fX8_need (p1 : Int32) (p2 : Int32) (s0 : zkS) : Option (Int32 × zkS) := (if (fX8_in ((p2 : Int32).toInt64) 0 4) = 0 then some ((-1), s0) else (if (fX8_in ((p1 : Int32).toInt64) 0 8) = 0 then some ((-2), s0) else zrd s0 1 346 2 (fun (v3 : Int32) => (if v3 = 1 then some ((-3), s0) else zb2 (fX8_needs p1 p2 s0) (fun (v4 : Int32) (s5 : zkS) => some (v4, s5))))))

def fX8_least_L27 (n : Nat) (x1 : Int32) (x2 : Int32) (s3 : zkS) (K27 : zkS → Option (Int32 × zkS)) : Option (Int32 × zkS) := match n with
  | 0 => none
  | n + 1 => (if 8 < x2 then K27 s3 else (if x1 = 0 then zb2 (fX8_needs x2 1 s3) (fun (v4 : Int32) (s5 : zkS) => (if v4 = 0 then some (x2, s5) else zlt (x2 + 1) (fun (v6 : Int32) => fX8_least_L27 n x1 v6 s5 K27))) else zb2 (fX8_needs x2 3 s3) (fun (v7 : Int32) (s8 : zkS) => (if v7 = 0 then some (x2, s8) else zlt (x2 + 1) (fun (v9 : Int32) => fX8_least_L27 n x1 v9 s8 K27)))))
def fX8_least (p1 : Int32) (s0 : zkS) : Option (Int32 × zkS) := (if (fX8_in ((p1 : Int32).toInt64) 0 1) = 0 then some ((-1), s0) else zrd s0 1 346 2 (fun (v2 : Int32) => (if v2 = 1 then some ((-3), s0) else fX8_least_L27 zFU p1 0 s0 (fun (s10 : zkS) => some ((-5), s10)))))

def fX8_see (p1 : Int32) (p2 : Int32) (p3 : Int32) (s0 : zkS) : Option (Int32 × zkS) := (if p1 = (-1) then zwr s0 1 346 299 0 (fun (s1 : zkS) => some (0, s1)) else zb1 (fX8_isThere p1 s0) (fun (v2 : Int32) => (if v2 = 0 then some ((-1), s0) else (if (fX8_in ((p2 : Int32).toInt64) 0 40) = 0 then some ((-2), s0) else zrd s0 1 346 299 (fun (v4 : Int32) => (if v4 = 5 then some ((-4), s0) else zwr s0 1 346 (284 + (3 * v4)) p1 (fun (s5 : zkS) => zwr s5 1 346 ((284 + (3 * v4)) + 1) p2 (fun (s6 : zkS) => zwr s6 1 346 ((284 + (3 * v4)) + 2) (fX8_flag p3) (fun (s8 : zkS) => zwr s8 1 346 299 (v4 + 1) (fun (s9 : zkS) => some ((v4 + 1), s9)))))))))))

def fX8_isSeen_L16 (n : Nat) (w1 : Nat) (s2 : zkS) (x3 : Int32) (x4 : Int32) (K16 : Unit → Option (Int32 × zkS)) : Option (Int32 × zkS) := match n with
  | 0 => none
  | n + 1 => zrd s2 w1 346 299 (fun (v3 : Int32) => (if v3 ≤ x4 then K16 () else zrd s2 w1 346 ((284 + (3 * x4)) + 1) (fun (v4 : Int32) => (if v4 = x3 then zrd s2 w1 346 12 (fun (v5 : Int32) => zrd s2 w1 346 (284 + (3 * x4)) (fun (v6 : Int32) => zrd s2 w1 346 ((284 + (3 * x4)) + 2) (fun (v9 : Int32) => (if (fX8_flag (fX8_bit v5 v6)) = v9 then zlt (x4 + 1) (fun (v10 : Int32) => fX8_isSeen_L16 n w1 s2 x3 v10 K16) else some (0, s2))))) else zlt (x4 + 1) (fun (v11 : Int32) => fX8_isSeen_L16 n w1 s2 x3 v11 K16)))))
def fX8_isSeen_L7 (n : Nat) (w1 : Nat) (x3 : Int32) (s2 : zkS) (K7 : zkS → Option (Int32 × zkS)) : Option (Int32 × zkS) := match n with
  | 0 => none
  | n + 1 => (if 40 < x3 then K7 s2 else fX8_isSeen_L16 zFU w1 s2 x3 0 (fun (_ : Unit) => zb2 (fX8_goes w1 1 s2) (fun (v12 : Int32) (s13 : zkS) => zlt (x3 + 1) (fun (v14 : Int32) => fX8_isSeen_L7 n w1 v14 s13 K7))))
def fX8_isSeen (w1 : Nat) (p2 : Int32) (s0 : zkS) : Option (Int32 × zkS) := zb1 (fX8_starts w1 p2 s0) (fun (s1 : zkS) => fX8_isSeen_L7 zFU w1 0 s1 (fun (s15 : zkS) => some (1, s15)))

def fX8_fits_L32 (n : Nat) (x1 : Int32) (x2 : Int32) (x3 : Int32) (s3 : zkS) (K32 : Int32 → zkS → Option (Int32 × zkS)) : Option (Int32 × zkS) := match n with
  | 0 => none
  | n + 1 => (if 24 ≤ x3 then K32 x2 s3 else zb1 (fX8_isThere x3 s3) (fun (v4 : Int32) => (if v4 = 0 then zlt (x3 + 1) (fun (v5 : Int32) => fX8_fits_L32 n x1 x2 v5 s3 K32) else zb1 (fX8_copies 1 2 s3) (fun (s6 : zkS) => zwr s6 2 346 16 x3 (fun (s7 : zkS) => zb2 (fX8_isSeen 2 x1 s7) (fun (v8 : Int32) (s9 : zkS) => (if v8 = 0 then zlt (x2 ||| 0) (fun (v10 : Int32) => zlt (x3 + 1) (fun (v11 : Int32) => fX8_fits_L32 n x1 v10 v11 s9 K32)) else zlt (x2 ||| (1 <<< (x3 &&& 31))) (fun (v12 : Int32) => zlt (x3 + 1) (fun (v13 : Int32) => fX8_fits_L32 n x1 v12 v13 s9 K32)))))))))
def fX8_fits (p1 : Int32) (s0 : zkS) : Option (Int32 × zkS) := (if (fX8_in ((p1 : Int32).toInt64) 0 8) = 0 then some ((-2), s0) else zrd s0 1 346 2 (fun (v2 : Int32) => (if v2 = 1 then some ((-3), s0) else fX8_fits_L32 zFU p1 0 0 s0 (fun (x14 : Int32) (s15 : zkS) => some (x14, s15)))))

def fX8_can_L59 (n : Nat) (x1 : Int32) (x2 : Int32) (x4 : Int32) (x5 : Int32) (x6 : Int32) (s5 : zkS) (K59 : Int32 → Int32 → zkS → Option (Int32 × zkS)) : Option (Int32 × zkS) := match n with
  | 0 => none
  | n + 1 => (if x6 < 0 then K59 x4 x5 s5 else zb1 (fX8_copies 1 2 s5) (fun (s6 : zkS) => zwr s6 2 346 (44 + x1) x6 (fun (s7 : zkS) => zb2 (fX8_isSeen 2 x2 s7) (fun (v8 : Int32) (s9 : zkS) => (if v8 = 0 then zlt (x6 + (-1)) (fun (v10 : Int32) => fX8_can_L59 n x1 x2 x4 x5 v10 s9 K59) else zlt (x4 + 1) (fun (v11 : Int32) => zlt (x6 + (-1)) (fun (v12 : Int32) => fX8_can_L59 n x1 x2 v11 x6 v12 s9 K59)))))))
def fX8_can (p1 : Int32) (p2 : Int32) (p3 : Int32) (s0 : zkS) : Option (Int32 × zkS) := zb1 (fX8_isThere p1 s0) (fun (v1 : Int32) => (if v1 = 0 then some ((-1), s0) else (if (fX8_in ((p3 : Int32).toInt64) 0 1) = 0 then some ((-1), s0) else (if (fX8_in ((p2 : Int32).toInt64) 0 8) = 0 then some ((-2), s0) else zrd s0 1 346 2 (fun (v4 : Int32) => (if v4 = 1 then some ((-3), s0) else fX8_can_L59 zFU p1 p2 0 (-5) 9 s0 (fun (x13 : Int32) (x14 : Int32) (s15 : zkS) => (if p3 = 0 then some (x13, s15) else some (x14, s15)))))))))

def fX8_lowest_L6 (n : Nat) (x5 : Int64) (x7 : Int64) (K6 : Int64 → Option (Int64)) : Option (Int64) := match n with
  | 0 => none
  | n + 1 => (if (lg_cmp x7 0) = 0 then K6 x5 else zrmL x5 x7 (fun (v1 : Int64) => fX8_lowest_L6 n x7 v1 K6))
def fX8_lowest (p1 : Int64) (p2 : Int64) (p3 : Int32) : Option (Int64) := fX8_lowest_L6 zFU p1 p2 (fun (x2 : Int64) => (if p3 = 0 then zdvL p1 x2 (fun (v3 : Int64) => some v3) else zdvL p2 x2 (fun (v4 : Int64) => some v4)))

def fX8_odds_L40 (n : Nat) (x1 : Int32) (x7 : Int32) (x3 : Int64) (x5 : Int64) (x8 : Int32) (s4 : zkS) (K40 : Int64 → Int64 → zkS → Option (Int64 × zkS)) : Option (Int64 × zkS) := match n with
  | 0 => none
  | n + 1 => zb1 (fX8_isField x7 x8 s4) (fun (v5 : Int32) => (if v5 = 0 then K40 x3 x5 s4 else zb1 (fX8_leads 1 x7 x8 s4) (fun (v6 : Int32) => (if v6 < 0 then zlt (x8 + 1) (fun (v7 : Int32) => fX8_odds_L40 n x1 x7 x3 x5 v7 s4 K40) else zlt (x3 + 1) (fun (v8 : Int64) => zb2 (fX8_isReachedCut x7 x8 x1 s4) (fun (v9 : Int32) (s10 : zkS) => (if v9 = 0 then zlt (x5 + 0) (fun (v11 : Int64) => zlt (x8 + 1) (fun (v12 : Int32) => fX8_odds_L40 n x1 x7 v8 v11 v12 s10 K40)) else zlt (x5 + 1) (fun (v13 : Int64) => zlt (x8 + 1) (fun (v14 : Int32) => fX8_odds_L40 n x1 x7 v8 v13 v14 s10 K40)))))))))
def fX8_odds_L30 (n : Nat) (x1 : Int32) (x3 : Int64) (x5 : Int64) (x7 : Int32) (s3 : zkS) (K30 : Int64 → Int64 → zkS → Option (Int64 × zkS)) : Option (Int64 × zkS) := match n with
  | 0 => none
  | n + 1 => (if 24 ≤ x7 then K30 x3 x5 s3 else fX8_odds_L40 zFU x1 x7 x3 x5 0 s3 (fun (x15 : Int64) (x16 : Int64) (s17 : zkS) => zlt (x7 + 1) (fun (v18 : Int32) => fX8_odds_L30 n x1 x15 x16 v18 s17 K30)))
def fX8_odds (p1 : Int32) (p2 : Int32) (s0 : zkS) : Option (Int64 × zkS) := zb1 (fX8_isThere p1 s0) (fun (v1 : Int32) => (if v1 = 0 then some ((-9223372036854775808), s0) else (if (fX8_in ((p2 : Int32).toInt64) 0 1) = 0 then some ((-9223372036854775808), s0) else fX8_odds_L30 zFU p1 0 0 0 s0 (fun (x19 : Int64) (x20 : Int64) (s21 : zkS) => (if (lg_cmp x19 0) = 0 then some ((-9223372036854775808), s21) else zb1 (fX8_lowest x20 x19 p2) (fun (v22 : Int64) => some (v22, s21)))))))

def fX8_mean_L31 (n : Nat) (s0 : zkS) (x2 : Int32) (x3 : Int64) (x5 : Int32) (K31 : Int64 → Option (Int64)) : Option (Int64) := match n with
  | 0 => none
  | n + 1 => (if 24 ≤ x5 then K31 x3 else (if (fX8_bit x2 x5) = 0 then zlt (x3 + 0) (fun (v4 : Int64) => zlt (x5 + 1) (fun (v5 : Int32) => fX8_mean_L31 n s0 x2 v4 v5 K31)) else zb1 (fX8_far 1 x5 s0) (fun (v6 : Int32) => zlt (x3 + ((v6 : Int32).toInt64)) (fun (v7 : Int64) => zlt (x5 + 1) (fun (v8 : Int32) => fX8_mean_L31 n s0 x2 v7 v8 K31)))))
def fX8_mean (p1 : Int32) (s0 : zkS) : Option (Int64) := zb1 (fX8_reached 1 s0) (fun (v1 : Int32) => (if (fX8_in ((p1 : Int32).toInt64) 0 1) = 0 then some (-9223372036854775808) else (if v1 = 0 then some (-9223372036854775808) else fX8_mean_L31 zFU s0 v1 0 0 (fun (x9 : Int64) => zb1 (fX8_lowest x9 (((fJ6_bitCount_0f7a4 v1) : Int32).toInt64) p1) (fun (v11 : Int64) => some v11)))))

def fX8_isPlanned (p1 : Int32) (p2 : Int32) (s0 : zkS) : Option (Int32) := zjn (fun (u2 : Unit) => zjn (fun (u4 : Unit) => (if p1 = 2 then zb1 (fX8_isThere p2 s0) (fun (v5 : Int32) => (if v5 = 0 then some 0 else some 1)) else some 0)) (fun (J3 : Unit → Option (Int32)) => (if p1 = 1 then (if (fX8_in ((p2 : Int32).toInt64) 0 3) = 0 then J3 () else some 1) else J3 ()))) (fun (J1 : Unit → Option (Int32)) => (if p1 = 0 then (if p2 < 0 then J1 () else zb1 (fX8_isField (p2 / 10) (p2 - p2 / 10 * 10) s0) (fun (v7 : Int32) => (if v7 = 0 then J1 () else some 1))) else J1 ()))

def fX8_plan (p1 : Int32) (p2 : Int32) (s0 : zkS) : Option (Int32 × zkS) := (if p1 = (-1) then zwr s0 1 346 320 0 (fun (s1 : zkS) => some (0, s1)) else zb1 (fX8_isPlanned p1 p2 s0) (fun (v2 : Int32) => (if v2 = 0 then some ((-1), s0) else zrd s0 1 346 320 (fun (v3 : Int32) => (if v3 = 10 then some ((-4), s0) else zwr s0 1 346 (300 + (2 * v3)) p1 (fun (s4 : zkS) => zwr s4 1 346 ((300 + (2 * v3)) + 1) p2 (fun (s5 : zkS) => zwr s5 1 346 320 (v3 + 1) (fun (s6 : zkS) => some ((v3 + 1), s6)))))))))

def fX8_ends_L13 (n : Nat) (x1 : Int32) (s2 : zkS) (K13 : zkS → Option (Int32 × zkS)) : Option (Int32 × zkS) := match n with
  | 0 => none
  | n + 1 => zrd s2 1 346 320 (fun (v3 : Int32) => (if v3 ≤ x1 then K13 s2 else zrd s2 1 346 (300 + (2 * x1)) (fun (v4 : Int32) => zrd s2 1 346 ((300 + (2 * x1)) + 1) (fun (v5 : Int32) => (if v4 = 0 then zwr s2 2 346 ((140 + (6 * (v5 / 10))) + (v5 - v5 / 10 * 10)) (-5) (fun (s6 : zkS) => zlt (x1 + 1) (fun (v7 : Int32) => fX8_ends_L13 n v7 s6 K13)) else (if v4 = 1 then (if v4 = 1 then zwr s2 2 346 (16 + v5) (-5) (fun (s8 : zkS) => zlt (x1 + 1) (fun (v9 : Int32) => fX8_ends_L13 n v9 s8 K13)) else zwr s2 2 346 (16 + v5) 0 (fun (s10 : zkS) => zlt (x1 + 1) (fun (v11 : Int32) => fX8_ends_L13 n v11 s10 K13))) else (if v4 = 1 then zwr s2 2 346 (44 + v5) (-5) (fun (s12 : zkS) => zlt (x1 + 1) (fun (v13 : Int32) => fX8_ends_L13 n v13 s12 K13)) else zwr s2 2 346 (44 + v5) 0 (fun (s14 : zkS) => zlt (x1 + 1) (fun (v15 : Int32) => fX8_ends_L13 n v15 s14 K13)))))))))
def fX8_ends (s0 : zkS) : Option (Int32 × zkS) := zb1 (fX8_copies 1 2 s0) (fun (s1 : zkS) => fX8_ends_L13 zFU 0 s1 (fun (s16 : zkS) => zb1 (fX8_reached 2 s16) (fun (v17 : Int32) => some (v17, s16))))

def fX8_book (p1 : Int32) (p2 : Int32) (p3 : Int32) (s0 : zkS) : Option (Int32 × zkS) := (if p1 = (-1) then zwr s0 1 346 345 0 (fun (s1 : zkS) => some (0, s1)) else zb1 (fX8_isField p1 p2 s0) (fun (v2 : Int32) => (if v2 = 0 then some ((-1), s0) else zjn (fun (u4 : Unit) => zrd s0 1 346 345 (fun (v5 : Int32) => (if v5 = 8 then some ((-4), s0) else zwr s0 1 346 (321 + (3 * v5)) p1 (fun (s6 : zkS) => zwr s6 1 346 ((321 + (3 * v5)) + 1) p2 (fun (s7 : zkS) => zjn (fun (v9 : Int32) => zwr s7 1 346 ((321 + (3 * v5)) + 2) v9 (fun (s10 : zkS) => zwr s10 1 346 345 (v5 + 1) (fun (s11 : zkS) => some ((v5 + 1), s11)))) (fun (J8 : Int32 → Option (Int32 × zkS)) => (if p3 = (-1) then J8 (-5) else J8 p3))))))) (fun (J3 : Unit → Option (Int32 × zkS)) => (if p3 = (-1) then J3 () else zb1 (fX8_isThere p3 s0) (fun (v12 : Int32) => (if v12 = 0 then some ((-1), s0) else J3 ())))))))

def fX8_looked_L2 (n : Nat) (s0 : zkS) (x1 : Int32) (K2 : Unit → Option (Int32)) : Option (Int32) := match n with
  | 0 => none
  | n + 1 => zrd s0 1 346 345 (fun (v1 : Int32) => (if v1 ≤ x1 then K2 () else zrd s0 1 346 (321 + (3 * x1)) (fun (v2 : Int32) => zb1 (fX8_isThere v2 s0) (fun (v3 : Int32) => (if v3 = 0 then some x1 else zrd s0 1 346 ((321 + (3 * x1)) + 1) (fun (v4 : Int32) => zrd s0 1 346 ((140 + (6 * v2)) + v4) (fun (v5 : Int32) => zrd s0 1 346 ((321 + (3 * x1)) + 2) (fun (v6 : Int32) => (if v5 = v6 then zlt (x1 + 1) (fun (v7 : Int32) => fX8_looked_L2 n s0 v7 K2) else some x1)))))))))
def fX8_looked (s0 : zkS) : Option (Int32) := fX8_looked_L2 zFU s0 0 (fun (_ : Unit) => some (-5))

def fX8_judge_L39 (n : Nat) (s0 : zkS) (x1 : Int32) (x2 : Int32) (x3 : Int32) (K39 : Unit → Option (Int32)) : Option (Int32) := match n with
  | 0 => none
  | n + 1 => zrd s0 1 346 0 (fun (v5 : Int32) => (if v5 ≤ x3 then K39 () else zrd s0 12 6 x1 (fun (v6 : Int32) => (if v6 = (-1) then some (100 + x3) else (if x2 < 0 then some (100 + x3) else zrd s0 13 6 x1 (fun (v7 : Int32) => (if x3 < (v7 - x2) then zrdL s0 360 (((60 * x1) + x2) + x3) (fun (v8 : Int64) => zrd s0 1 346 12 (fun (v9 : Int32) => (if (fX8_bit v9 x3) = 0 then (if (lg_cmp v8 0) = 0 then zlt (x3 + 1) (fun (v11 : Int32) => fX8_judge_L39 n s0 x1 x2 v11 K39) else some x3) else (if (lg_cmp v8 1) = 0 then zlt (x3 + 1) (fun (v12 : Int32) => fX8_judge_L39 n s0 x1 x2 v12 K39) else some x3)))) else some (100 + x3))))))))
def fX8_judge (p1 : Int32) (p2 : Int32) (s0 : zkS) : Option (Int32) := (if (fX8_in ((p1 : Int32).toInt64) 0 5) = 0 then some (-1) else zrd s0 12 6 p1 (fun (v2 : Int32) => zjn (fun (u4 : Unit) => fX8_judge_L39 zFU s0 p1 p2 0 (fun (_ : Unit) => some (-5))) (fun (J3 : Unit → Option (Int32)) => (if v2 = (-1) then J3 () else zrd s0 12 6 p1 (fun (v13 : Int32) => (if v13 = 4 then J3 () else some (-12)))))))

def fX8_image (s0 : zkS) : Option (Int32 × zkS) := zb1 (fX8_copies 1 3 s0) (fun (s1 : zkS) => zpi s1 0 3 1 (fun (s2 : zkS) => zb1 (fX8_there s2) (fun (v3 : Int32) => some (v3, s2))))

def fX8_undo (s0 : zkS) : Option (Int32 × zkS) := (if (s0.1 0 3) = 0 then some ((-3), s0) else zb1 (fX8_copies 3 1 s0) (fun (s1 : zkS) => zb1 (fX8_there s1) (fun (v2 : Int32) => some (v2, s1))))

def fX8_taken (p1 : Int32) (p2 : Int32) (s0 : zkS) : Option (Int32) := (if (fX8_in ((p2 : Int32).toInt64) 0 6) = 0 then some (-2) else zb1 (fX8_isThere p1 s0) (fun (v2 : Int32) => (if v2 = 0 then some (-11) else zrd s0 1 346 (20 + p1) (fun (v3 : Int32) => (if p2 = 0 then (if (1 : Int32) = 0 then some (-12) else some v3) else (if p2 = v3 then (if (1 : Int32) = 0 then some (-12) else some v3) else zjn (fun (u5 : Unit) => zjn (fun (u7 : Unit) => (if p2 = 1 then (if v3 = 6 then (if (1 : Int32) = 0 then some (-12) else some v3) else (if (0 : Int32) = 0 then some (-12) else some v3)) else (if (0 : Int32) = 0 then some (-12) else some v3))) (fun (J6 : Unit → Option (Int32)) => (if p2 = 2 then (if v3 = 5 then (if (1 : Int32) = 0 then some (-12) else some v3) else J6 ()) else J6 ()))) (fun (J4 : Unit → Option (Int32)) => (if p2 = 3 then (if v3 = 4 then (if (1 : Int32) = 0 then some (-12) else some v3) else J4 ()) else J4 ()))))))))

def fX8_count (p1 : Int32) (s0 : zkS) : Option (Int32) := (if p1 = 0 then zrd s0 1 346 0 (fun (v1 : Int32) => some v1) else (if p1 = 1 then zrd s0 1 346 299 (fun (v2 : Int32) => some v2) else (if p1 = 2 then zrd s0 1 346 320 (fun (v3 : Int32) => some v3) else (if p1 = 3 then zrd s0 1 346 345 (fun (v4 : Int32) => some v4) else (if p1 = 4 then some (s0.1 0 5) else some (-2))))))

def fX8_tape_L80 (n : Nat) (x1 : Int32) (x4 : Int32) (s11 : zkS) (K80 : zkS → Option (Int32 × zkS)) : Option (Int32 × zkS) := match n with
  | 0 => none
  | n + 1 => (if 60 ≤ x4 then K80 s11 else zwrL s11 360 ((60 * x1) + x4) 0 (fun (s12 : zkS) => zlt (x4 + 1) (fun (v13 : Int32) => fX8_tape_L80 n x1 v13 s12 K80)))
def fX8_tape (p1 : Int32) (p2 : Int32) (p3 : Int32) (s0 : zkS) : Option (Int32 × zkS) := (if (fX8_in ((p1 : Int32).toInt64) 0 5) = 0 then some ((-1), s0) else (if (fX8_in ((p2 : Int32).toInt64) (-1) 4) = 0 then some ((-2), s0) else zjn (fun (u4 : Unit) => zjn (fun (u6 : Unit) => zwr s0 12 6 p1 p2 (fun (s7 : zkS) => zjn (fun (v9 : Int32) => zwr s7 13 6 p1 v9 (fun (s10 : zkS) => fX8_tape_L80 zFU p1 0 s10 (fun (s14 : zkS) => some (1, s14)))) (fun (J8 : Int32 → Option (Int32 × zkS)) => (if p2 = (-1) then J8 0 else J8 p3)))) (fun (J5 : Unit → Option (Int32 × zkS)) => (if p2 = (-1) then J5 () else (if 0 ≤ p3 then J5 () else some ((-14), s0))))) (fun (J3 : Unit → Option (Int32 × zkS)) => (if p2 = (-1) then J3 () else (if p3 ≤ 60 then J3 () else some ((-2), s0))))))

def fX8_lowestBits (p1 : Int32) (p2 : Int64) : Int64 := (if p1 = 0 then (((((p2 : Int64).toInt32).toInt8.toInt32) : Int32).toInt64) else (if p1 = 1 then (((((p2 : Int64).toInt32).toInt16.toInt32) : Int32).toInt64) else (if p1 = 2 then ((((p2 : Int64).toInt32) : Int32).toInt64) else (if p1 = 3 then p2 else (if (lg_cmp p2 0) = 0 then 0 else 1)))))

def fX8_item (p1 : Int32) (p2 : Int32) (p3 : Int64) (s0 : zkS) : Option (Int32 × zkS) := (if (fX8_in ((p1 : Int32).toInt64) 0 5) = 0 then some ((-1), s0) else zrd s0 12 6 p1 (fun (v2 : Int32) => (if v2 = (-1) then some ((-11), s0) else zrd s0 13 6 p1 (fun (v3 : Int32) => (if (fX8_in ((p2 : Int32).toInt64) 0 (((v3 - 1) : Int32).toInt64)) = 0 then some ((-13), s0) else zrd s0 12 6 p1 (fun (v5 : Int32) => zwrL s0 360 ((60 * p1) + p2) (fX8_lowestBits v5 p3) (fun (s7 : zkS) => some (1, s7))))))))

def fX8_read (p1 : Int32) (p2 : Int32) (s0 : zkS) : Option (Int64) := (if (fX8_in ((p1 : Int32).toInt64) 0 5) = 0 then some (-9223372036854775808) else zrd s0 13 6 p1 (fun (v2 : Int32) => (if (fX8_in ((p2 : Int32).toInt64) 0 (((v2 - 1) : Int32).toInt64)) = 0 then some (-9223372036854775808) else zrdL s0 360 ((60 * p1) + p2) (fun (v4 : Int64) => some v4))))

def fX8_shift_L135 (n : Nat) (x1 : Int32) (x2 : Int32) (x3 : Int32) (x4 : Int32) (x5 : Int32) (x6 : Int32) (s11 : zkS) (K135 : zkS → Option (Int32 × zkS)) : Option (Int32 × zkS) := match n with
  | 0 => none
  | n + 1 => (if x5 ≤ x6 then K135 s11 else zjn (fun (v13 : Int32) => zrdL s11 360 (((60 * x1) + x2) + v13) (fun (v14 : Int64) => zwrL s11 360 (((60 * x3) + x4) + v13) v14 (fun (s15 : zkS) => zlt (x6 + 1) (fun (v16 : Int32) => fX8_shift_L135 n x1 x2 x3 x4 x5 v16 s15 K135)))) (fun (J12 : Int32 → Option (Int32 × zkS)) => (if x4 ≤ x2 then J12 x6 else J12 ((x5 - 1) - x6))))
def fX8_shift (p1 : Int32) (p2 : Int32) (p3 : Int32) (p4 : Int32) (p5 : Int32) (s0 : zkS) : Option (Int32 × zkS) := (if (fX8_in ((p1 : Int32).toInt64) 0 5) = 0 then some ((-1), s0) else (if (fX8_in ((p3 : Int32).toInt64) 0 5) = 0 then some ((-1), s0) else zrd s0 12 6 p1 (fun (v3 : Int32) => (if v3 = (-1) then some ((-11), s0) else zrd s0 12 6 p3 (fun (v4 : Int32) => (if v4 = (-1) then some ((-11), s0) else zrd s0 12 6 p1 (fun (v5 : Int32) => zrd s0 12 6 p3 (fun (v6 : Int32) => (if v5 = v6 then (if p5 < 0 then some ((-13), s0) else (if p2 < 0 then some ((-13), s0) else (if p4 < 0 then some ((-13), s0) else zrd s0 13 6 p1 (fun (v7 : Int32) => (if v7 < p2 then some ((-13), s0) else zrd s0 13 6 p3 (fun (v8 : Int32) => (if v8 < p4 then some ((-13), s0) else zrd s0 13 6 p1 (fun (v9 : Int32) => (if (v9 - p2) < p5 then some ((-13), s0) else zrd s0 13 6 p3 (fun (v10 : Int32) => (if p5 ≤ (v10 - p4) then fX8_shift_L135 zFU p1 p2 p3 p4 p5 0 s0 (fun (s17 : zkS) => some (p5, s17)) else some ((-13), s0)))))))))))) else some ((-12), s0))))))))))
