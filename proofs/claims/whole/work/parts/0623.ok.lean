theorem am_k22 : (List.range 2).all (fun k => am_okM (236 + k)) = true := by decide +kernel
