/** Courts that tests of boundaries begin with. */
final class Courts {
    private Courts() { }

    /** Three editions, three rulings, a stay, suits, a snapshot, a stop of plead(); an edition on the pad. */
    static CommaCourt busy() {
        CommaCourt court = Check.courtWith("fff", "ab,c", "ff,f");
        court.rule(0, 1, true, 3, -1);
        court.rule(0, 1, true, 4, 0);
        court.rule(1, 2, false, 5, -1);
        court.overrule(1);
        court.save();
        court.weight(3, 7);
        Check.type(court, "+;0:0;+;0:0");
        court.plead();
        court.stay(1, 3);
        Check.type(court, "a,b");
        return court;
    }

    /** As busy(), but with suits on the pad. */
    static CommaCourt pleading() {
        CommaCourt court = busy();
        Check.type(court, "0:0;+");
        return court;
    }

    /** As many editions, rulings, signs on the pad and states as there can be. */
    static CommaCourt full() {
        CommaCourt court = Check.courtWith("a", "ab", "a,b", "abc");
        for (int ruling = 0; ruling < 10; ruling++) {
            court.rule(ruling % 6, ruling / 6, true, ruling + 1, ruling - 1);
        }
        Check.type(court, "+;".repeat(30));
        return court;
    }

    /** Twelve words and no comma: "aaaaaaaaaaaa". */
    static CommaCourt withTwelveWords() {
        return Check.courtWith("aaaaaaaaaaaa");
    }

    static CommaCourt withPad(String pad) {
        CommaCourt court = new CommaCourt();
        Check.type(court, pad);
        return court;
    }
}
