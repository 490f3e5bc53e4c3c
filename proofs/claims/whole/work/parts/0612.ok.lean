theorem am_k11 : (List.range 9).all (fun k => am_okM (146 + k)) = true := by decide +kernel
