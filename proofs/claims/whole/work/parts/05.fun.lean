def f_X5_norm (m_a m_b : Int64) : Option (Int64) := some (((m_a * m_a) - (m_a * m_b)) + (m_b * m_b))
def f_X5_multiply (m_a m_b m_p1_a m_p1_b : Int64) : Option (Int64 × Int64) := some (((m_a * m_p1_a) - (m_b * m_p1_b)), (((m_a * m_p1_b) + (m_b * m_p1_a)) - (m_b * m_p1_b)))
def f_X5_isNought (m_a m_b : Int64) : Option (Int32) := if m_a = (0 : Int64) then if m_b = (0 : Int64) then some (1 : Int32) else some (0 : Int32) else some (0 : Int32)
def f_X5_isOfThree (m_a m_b : Int64) : Option (Int32) := if ((m_a + m_b) - (m_a + m_b) / (3 : Int64) * (3 : Int64)) = (0 : Int64) then some (1 : Int32) else some (0 : Int32)
def f_X5_set (v1 v3 : Int64) : Option (Int64 × Int64) := some (v1, v3)
def f_X5_takeOutThrees_2 (N : Nat) : Nat → Int32 → Int64 → Int64 → Option (Int32 × Int64 × Int64)
  | 0, _, _, _ => none
  | k + 1, v1, m_a, m_b => if (60 : Int32) ≤ v1 then some (v1, m_a, m_b) else (f_X5_isOfThree m_a m_b).bind fun y9 => if y9 = 0 then some (v1, m_a, m_b) else (f_X5_isNought m_a m_b).bind fun y16 => if y16 = 0 then (f_X5_set ((((2 : Int64) * m_a) - m_b) / (3 : Int64)) ((m_a + m_b) / (3 : Int64))).bind fun y53 => f_X5_takeOutThrees_2 N k (v1 + (1 : Int32)) y53.1 y53.2 else some (v1, m_a, m_b)
def f_X5_takeOutThrees (N : Nat) (m_a m_b : Int64) : Option (Int32 × Int64 × Int64) := f_X5_takeOutThrees_2 N N (0 : Int32) m_a m_b
def f_J9_floorMod_f86c9 (v0 v2 : Int64) : Option (Int64) := if v2 = 0 then none else if (0 : Int64) ≤ (v0 ^^^ v2) then some (v0 - v0 / v2 * v2) else if (v0 - v0 / v2 * v2) = (0 : Int64) then some (v0 - v0 / v2 * v2) else some ((v0 - v0 / v2 * v2) + v2)
def f_X5_isPrimary (m_a m_b : Int64) : Option (Int32) := (f_J9_floorMod_f86c9 m_a (3 : Int64)).bind fun y7 => if y7 = (2 : Int64) then if (m_b - m_b / (3 : Int64) * (3 : Int64)) = (0 : Int64) then some (1 : Int32) else some (0 : Int32) else some (0 : Int32)
