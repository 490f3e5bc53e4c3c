theorem am_kl12 : (List.range 50).all (fun k => am_okA 299 (1440 + k)) = true := by decide +kernel
