/** What the document says of a step of each of the three kinds, and of a start; every expected number is worked out by hand. */
public final class StepTest {
    private static final Packing PLAIN = new Packing(0, 0, 0, 1);
    private static final long ALL = 1000000000000L;

    public static void main(String[] args) {
        Sentences.test(StepTest.class);
    }

    private static void scores(Check check, String name, ArcTape x, long... due) {
        for (int v = 0; v < due.length; v++) {
            check.due(name + ": score(" + v + ")", x.score(v), due[v]);
        }
    }

    private static void hubs(Check check, String name, ArcTape x, long... due) {
        for (int v = 0; v < due.length; v++) {
            check.due(name + ": hub(" + v + ")", x.hub(v), due[v]);
        }
    }

    private static ArcTape packed(int n, int[]... rows) {
        return Tapes.packed(PLAIN, n, rows);
    }

    /** 0 links to 1 and 2, 1 to 2, 2 to none. */
    private static ArcTape triangle() {
        return packed(3, Tapes.row(0, 1, 2), Tapes.row(1, 2));
    }

    private static void step(Check check, ArcTape x) {
        check.due("step(1)", x.step(1), 1);
    }

    @Sentence("every division here gives the whole part of the quotient, and products and quotients are worked out from the left to the right.")
    static void productsBeforeQuotients(Check check) {
        // 10^9 * 3 / 7 is 428571428, but 10^9 / 7 * 3 would be 428571426.
        ArcTape x = packed(2, Tapes.row(0, 0), Tapes.row(1, 1));
        x.prefer(0, 3);
        x.prefer(1, 4);
        x.start(0, 999);
        step(check, x);
        scores(check, "(1000 - a) * 1000000000 * weight(v) / W", x, 428571428L + 499500000000L, 571428571L + 499500000000L);
        // 10^12 * 8 / 17 is 470588235294, but 10^12 / 17 * 8 would be 470588235288.
        ArcTape y = packed(2);
        y.prefer(0, 8);
        y.prefer(1, 9);
        y.start(0, 1000);
        step(check, y);
        scores(check, "Z * weight(v) / W", y, 470588235294L, 529411764705L);
        // 850 * 333333333333 / 1000 is 283333333333, but 333333333333 / 1000 * 850 would be 283333333050.
        ArcTape z = packed(3, Tapes.row(0, 0), Tapes.row(1, 1), Tapes.row(2, 2));
        step(check, z);
        scores(check, "a * (S + ..) / 1000", z, 333333333333L, 333333333333L, 333333333333L);
        // 999 * 444444444444 / 1000, not 999 * 333333333333 / 1000 and 999 * 111111111111 / 1000.
        ArcTape w = packed(3, Tapes.row(0, 0), Tapes.row(1, 1));
        w.start(0, 999);
        step(check, w);
        scores(check, "a * (S + ..) / 1000", w, 333333333L + 443999999999L, 333333333L + 443999999999L, 333333333L + 110999999999L);
    }

    @Sentence("S the sum of score(u) / out(u) over all u that link to v.")
    static void wholePartsAreAdded(Check check) {
        // 166666666666 twice and 333333333333, not half of 666666666666.
        ArcTape x = packed(3, Tapes.row(0, 0, 2), Tapes.row(1, 1, 2), Tapes.row(2, 2));
        x.start(0, 1000);
        step(check, x);
        scores(check, "damping 1000", x, 166666666666L, 166666666666L, 666666666665L);
    }

    @Sentence("The new score of v is (1000 - a) * 1000000000 * weight(v) / W + a * (S + Z * weight(v) / W) / 1000.")
    static void kind0(Check check) {
        // 0 links to 1, and 1 to none: Z is 5 * 10^11.
        ArcTape x = packed(2, Tapes.row(0, 1));
        x.prefer(0, 2);
        x.start(0, 850);
        step(check, x);
        // 100 * 10^9 + 850 * 333333333333 / 1000; 50 * 10^9 + 850 * (500000000000 + 166666666666) / 1000.
        scores(check, "weights 2 and 1", x, 383333333333L, 616666666666L);
        check.due("change()", x.change(), 116666666667L + 116666666666L);
    }

    @Sentence("Kind 0, with a DAMPING a of 0 .. 1000")
    static void dampings(Check check) {
        ArcTape x = packed(2, Tapes.row(0, 1));
        x.start(0, 850);
        step(check, x);
        scores(check, "850", x, 287500000000L, 712500000000L);
        hubs(check, "kind 0", x, 0, 0);
        x.start(0, 0);
        x.prefer(1, 3);
        step(check, x);
        scores(check, "0: weights alone", x, 250000000000L, 750000000000L);
        x.start(0, 1000);
        step(check, x);
        // Z is 5 * 10^11: an 8th and 3 8ths of 10^12; 1 has half of all beside it.
        scores(check, "1000: links alone", x, 125000000000L, 875000000000L);
        x.start(0, 1);
        step(check, x);
        scores(check, "1", x, 249750000000L + 125000000L, 749250000000L + 875000000L);
    }

    @Sentence("let Z be the sum of the scores of the nodes with an empty list")
    static void nodesWithoutLinks(Check check) {
        ArcTape x = packed(4, Tapes.row(0, 0), Tapes.row(1, 1));
        x.start(0, 1000);
        step(check, x);
        // 2 and 3 give a quarter of 5 * 10^11 to each.
        scores(check, "two have none", x, 375000000000L, 375000000000L, 125000000000L, 125000000000L);
        ArcTape all = packed(4, Tapes.row(0, 1), Tapes.row(1, 2), Tapes.row(2, 3), Tapes.row(3, 0));
        all.prefer(0, 100);
        all.start(0, 1000);
        step(check, all);
        scores(check, "none has none", all, ALL / 4, ALL / 4, ALL / 4, ALL / 4);
        ArcTape none = packed(4);
        none.prefer(0, 97);
        none.start(0, 1000);
        step(check, none);
        scores(check, "all have none", none, 970000000000L, 10000000000L, 10000000000L, 10000000000L);
        ArcTape faulty = packed(2, Tapes.row(0, 1), Tapes.row(1, 1));
        faulty.start(0, 1000);
        faulty.flip(0);
        check.due("degree(0) < 0", faulty.degree(0) < 0, true);
        step(check, faulty);
        scores(check, "a faulty one has none", faulty, 250000000000L, 750000000000L);
    }

    @Sentence("Every node has a WEIGHT 0 .. 100, at first 1; W is the sum of the weights.")
    static void weights(Check check) {
        ArcTape x = triangle();
        x.start(0, 999);
        x.prefer(0, 0);
        x.prefer(2, 100);
        step(check, x);
        // Z is 333333333333, W 101: with weights 0, 1 and 100 it is 0, 3300330033 and 330033003300.
        // 10^9 * weight / 101 is 0, 9900990 and 990099009; S is 0, 166666666666 and 499999999999.
        scores(check, "0, 1 and 100", x, 0, 9900990L + 999L * (166666666666L + 3300330033L) / 1000,
            990099009L + 999L * (499999999999L + 330033003300L) / 1000);
        ArcTape most = packed(12);
        for (int v = 0; v < 12; v++) {
            most.prefer(v, 100);
        }
        step(check, most);
        // 150 * 10^9 / 12 and 850 / 1000 of 999999999996 / 12.
        check.due("all 100: score(11)", most.score(11), 12500000000L + 70833333333L);
    }

    @Sentence("Kind 1: first for every v the sum of hub(u) over all u that link to v; if the greatest of these sums, m, is not 0, "
        + "the new score of v is its sum * 1000000 / m")
    static void kind1(Check check) {
        ArcTape x = triangle();
        x.start(1, 0);
        step(check, x);
        scores(check, "first", x, 0, 500000, 1000000);
        hubs(check, "first", x, 1000000, 666666, 0);
        check.due("change()", x.change(), 1500000);
        step(check, x);
        // 1000000 and 1666666: 1000000 * 1000000 / 1666666 = 600000 (and some); then 1600000 and 1000000.
        scores(check, "second", x, 0, 600000, 1000000);
        hubs(check, "second", x, 1000000, 625000, 0);
        check.due("change(), second", x.change(), 100000);
    }

    @Sentence("else all new scores are 0.")
    static void kind1WithoutLinks(Check check) {
        ArcTape x = new ArcTape(3);
        x.start(1, 1000);
        step(check, x);
        scores(check, "no links", x, 0, 0, 0);
        hubs(check, "no links", x, 0, 0, 0);
        check.due("change()", x.change(), 3000000);
        ArcTape y = packed(2, Tapes.row(0, 1));
        y.start(1, 0);
        step(check, y);
        scores(check, "0 to 1", y, 0, 1000000);
        hubs(check, "0 to 1", y, 1000000, 0);
        y.drop(0, 1);
        y.add(1, 0);
        PLAIN.of(y);
        // 1 alone links now, and its hub is 0.
        step(check, y);
        scores(check, "1 to 0", y, 0, 0);
        hubs(check, "1 to 0", y, 0, 0);
        check.due("change()", y.change(), 1000000);
        step(check, y);
        scores(check, "nothing comes back", y, 0, 0);
        check.due("change()", y.change(), 0);
    }

    @Sentence("Then likewise the new hubs: for every u the sum of the new score(v) over all v that u links to, "
        + "brought by the greatest of these sums to 1000000 in the same way.")
    static void kind1Hubs(Check check) {
        // Sums of hubs: 3, 2, 2 for the nodes 0, 1, 2; scores 1000000, 666666, 666666.
        ArcTape x = packed(3, Tapes.row(0, 0, 1, 2), Tapes.row(1, 0, 1), Tapes.row(2, 0, 2));
        x.start(1, 500);
        step(check, x);
        scores(check, "scores", x, 1000000, 666666, 666666);
        // 2333332, 1666666, 1666666: 1666666 * 1000000 / 2333332 = 714285 (and some).
        hubs(check, "hubs of the new scores", x, 1000000, 714285, 714285);
        check.due("change(), of scores alone", x.change(), 666668);
    }

    @Sentence("Kind 2: first the new hub of every u, the sum of score(v) / in(v) over all v that u links to; "
        + "then the new score of every v, the sum of the new hub(u) / out(u) over all u that link to v.")
    static void kind2(Check check) {
        ArcTape x = triangle();
        x.start(2, 7);
        step(check, x);
        hubs(check, "first", x, 499999999999L, 166666666666L, 0);
        scores(check, "first", x, 0, 249999999999L, 416666666665L);
        check.due("change()", x.change(), 333333333333L + 83333333334L + 83333333332L);
        step(check, x);
        // 249999999999 / 1 + 416666666665 / 2; then a half of 458333333331 each, and 208333333332 more.
        hubs(check, "second", x, 458333333331L, 208333333332L, 0);
        scores(check, "second", x, 0, 229166666665L, 229166666665L + 208333333332L);
    }

    @Sentence("Kind 2: first the new hub of every u")
    static void kind2Edges(Check check) {
        ArcTape none = new ArcTape(3);
        none.start(2, 0);
        step(check, none);
        hubs(check, "no links", none, 0, 0, 0);
        scores(check, "no links", none, 0, 0, 0);
        ArcTape self = packed(1, Tapes.row(0, 0));
        self.start(2, 0);
        step(check, self);
        hubs(check, "one node, linked to itself", self, ALL);
        scores(check, "one node, linked to itself", self, ALL);
        check.due("change()", self.change(), 0);
        // Every node links to 0, and 0 to every node: 12 share its score.
        ArcTape star = new ArcTape(12);
        for (int v = 0; v < 12; v++) {
            star.add(0, v);
            star.add(v, 0);
        }
        PLAIN.of(star);
        star.start(2, 0);
        step(check, star);
        // 83333333333 / 12 is 6944444444; 0 has that and 11 * 83333333333; the others have that alone.
        check.due("star: hub(0)", star.hub(0), 6944444444L + 916666666663L);
        check.due("star: hub(11)", star.hub(11), 6944444444L);
        // 923611111107 / 12 is 76967592592.
        check.due("star: score(0)", star.score(0), 76967592592L + 11 * 6944444444L);
        check.due("star: score(11)", star.score(11), 76967592592L);
    }

    @Sentence("out(u) is the number of nodes in the list of u, in(v) the number of nodes that link to v.")
    static void ofTheListsAlone(Check check) {
        // 0 and 1 link to 2; when the record of 0 is faulty, 1 alone does, and has no less of it.
        ArcTape x = packed(3, Tapes.row(0, 2), Tapes.row(1, 2));
        x.start(2, 0);
        step(check, x);
        hubs(check, "two link to 2", x, 166666666666L, 166666666666L, 0);
        scores(check, "two link to 2", x, 0, 0, 333333333332L);
        x.start(2, 0);
        x.flip(0);
        check.due("degree(0) < 0", x.degree(0) < 0, true);
        step(check, x);
        hubs(check, "one links to 2", x, 0, 333333333333L, 0);
        scores(check, "one links to 2", x, 0, 0, 333333333333L);
        // The draft says two, the stream one.
        ArcTape y = packed(3, Tapes.row(0, 1));
        y.add(0, 2);
        y.start(0, 1000);
        step(check, y);
        // 2 * 333333333333 / 3 is what 1 and 2, which have none, give to each.
        scores(check, "out(0) is 1", y, 222222222222L, 333333333333L + 222222222222L, 222222222222L);
    }

    @Sentence("with kinds 0 and 2 all scores become 1000000000000 / n and all hubs 0, with kind 1 all scores and all hubs become 1000000.")
    static void starts(Check check) {
        for (int n = 1; n <= 12; n++) {
            ArcTape x = packed(n, Tapes.row(0, 0));
            for (int kind : new int[] {1, 0, 1, 2, 1, 2, 0}) {
                x.start(kind, 500);
                for (int v = 0; v < n; v++) {
                    check.due(n + " nodes, kind " + kind + ": score(" + v + ")", x.score(v), kind == 1 ? 1000000 : ALL / n);
                    check.due(n + " nodes, kind " + kind + ": hub(" + v + ")", x.hub(v), kind == 1 ? 1000000 : 0);
                }
                x.step(2);
            }
        }
    }

    @Sentence("A STEP makes the new scores (and hubs) of all nodes from the old ones")
    static void fromTheOldOnes(Check check) {
        // A ring: if new scores were used at once, what goes along it would go further than one link.
        ArcTape x = packed(3, Tapes.row(0, 1), Tapes.row(1, 2), Tapes.row(2, 0));
        x.prefer(0, 2);
        x.start(0, 0);
        step(check, x);
        scores(check, "by weights", x, 500000000000L, 250000000000L, 250000000000L);
        ArcTape y = packed(3, Tapes.row(0, 1), Tapes.row(1, 2), Tapes.row(2, 2));
        y.start(0, 1000);
        step(check, y);
        scores(check, "one link further", y, 0, 333333333333L, 666666666666L);
        step(check, y);
        scores(check, "two links further", y, 0, 0, 999999999999L);
    }

    @Sentence("All that is said below of lists, and so of scores and components, is about the stream as it is at the time of the call.")
    static void atTheTimeOfTheCall(Check check) {
        for (int kind = 0; kind <= 2; kind++) {
            ArcTape x = packed(2, Tapes.row(0, 1));
            ArcTape without = packed(2);
            ArcTape with = packed(2, Tapes.row(0, 1));
            x.drop(0, 1);
            x.add(1, 0);
            for (ArcTape each : new ArcTape[] {x, without, with}) {
                each.start(kind, 850);
            }
            x.flip(0);
            x.step(1);
            without.step(1);
            check.due("kind " + kind + ", faulty", State.scores(x, 2), State.scores(without, 2));
            x.flip(0);
            x.start(kind, 850);
            x.step(1);
            with.step(1);
            check.due("kind " + kind + ", good again", State.scores(x, 2), State.scores(with, 2));
        }
    }
}
