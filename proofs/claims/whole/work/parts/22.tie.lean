/-- the reader's recursion tied: by how deep it may still go -/
def fTsum : Nat → Int32 → ow_S → Option (Unit × ow_S)
  | 0 => fun _ _ => none
  | d + 1 => fX6_readSum (fX6_readTerm (fX6_readFactor (fTsum d)))
theorem mTsum : ∀ (d : Nat) (x : Int32), ow_M layX true (20 + 3 * d) yX6_readSum cX6_readSum 4 none (fun q t => [.ref (q 15), .int x]) ow_vv (fTsum d x)
  | 0, x => fun l D cy q t sz σ res h => by cases h
  | d + 1, x => by
    have h0 := mTsum d
    have h1 := fun y => mX6_readFactor (L := 20 + 3 * d + 1) (by omega) (by omega) h0 y
    have h2 := fun y => mX6_readTerm (L := 20 + 3 * d + 2) (by omega) (by omega) h1 y
    exact mX6_readSum (L := 20 + 3 * (d + 1)) (by omega) (by omega) h2 x
def fTpiece : Nat → Int32 → ow_S → Option (Unit × ow_S)
  | 0 => fun _ _ => none
  | d + 1 => fX6_readPiece (fX6_readChoice (fX6_readPart (fTpiece d))) (fTpiece d) (fTsum 9)
theorem mTpiece : ∀ (d : Nat) (x : Int32), ow_M layX true (48 + 3 * d) yX6_readPiece cX6_readPiece 4 none (fun q t => [.ref (q 15), .int x]) ow_vv (fTpiece d x)
  | 0, x => fun l D cy q t sz σ res h => by cases h
  | d + 1, x => by
    have h0 := mTpiece d
    have h1 := fun y => mX6_readPart (L := 48 + 3 * d + 1) (by omega) (by omega) h0 y
    have h2 := fun y => mX6_readChoice (L := 48 + 3 * d + 2) (by omega) (by omega) h1 y
    exact mX6_readPiece (L := 48 + 3 * (d + 1)) (by omega) (by omega) (by omega) (by omega) h2 h0 (fun y => mTsum 9 y) x
def fTX6_readSum (x : Int32) : ow_S → Option (Unit × ow_S) := fTsum 9 x
theorem mTX6_readSum (x : Int32) : ow_M layX true 47 yX6_readSum cX6_readSum 4 none (fun q t => [.ref (q 15), .int x]) ow_vv (fTX6_readSum x) := mTsum 9 x
def fTX6_readChoice (x : Int32) : ow_S → Option (Unit × ow_S) := fX6_readChoice (fX6_readPart (fTpiece 9)) x
theorem mTX6_readChoice (x : Int32) : ow_M layX true 77 yX6_readChoice cX6_readChoice 4 none (fun q t => [.ref (q 15), .int x]) ow_vv (fTX6_readChoice x) :=
  mX6_readChoice (L := 77) (by omega) (L_readPart := 76) (by omega) (fun y => mX6_readPart (L := 76) (by omega) (by omega) (mTpiece 9) y) x

