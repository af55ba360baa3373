/-- far above what any loop needs -/
def FU : Nat := 10000000
