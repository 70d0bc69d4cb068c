import java.util.function.Supplier;

/** The sentences of wouldBe(), decisive(), needed(), power() and bestHolder(), each with its boundary. */
public final class ForecastsEdgesTest {
    private static final int NOT_POSSIBLE = -5, NONE = -6;
    private static final Check CHECK = new Check();

    public static void main(String[] args) {
        pendingOnly();
        askedAtOnce();
        wouldBeAsIfOpen();
        wouldBeWithoutQuorum();
        decisiveWhoCould();
        decisiveInPlace();
        decisiveByTheirVoteAlone();
        decisiveKinds();
        neededWhoCould();
        neededFewest();
        neededLowestMask();
        neededNow();
        neededNone();
        neededKinds();
        powerHalf();
        powerOfAll();
        powerSets();
        bestWhoCan();
        bestFewest();
        bestLowest();
        bestOfWhom();
        bestPlaces();
        bestComeAlong();
        bestNobody();
        CHECK.end();
    }

    /** An item of a kind is open, and members of these weights are present. */
    private static ProxyVotes opened(int kind, int... weights) {
        ProxyVotes x = new ProxyVotes();
        for (int weight : weights) {
            x.come(x.member(weight, 0));
        }
        x.item(kind, 0);
        x.open(0);
        return x;
    }

    private static void pendingOnly() {
        CHECK.sentence("NOT_POSSIBLE if it is neither WAITING nor OPEN");
        Supplier<ProxyVotes> waiting = () -> Committees.plain(2);
        Supplier<ProxyVotes> open = () -> Committees.opened(2);
        Supplier<ProxyVotes> tied = Check.after(open, ProxyVotes::close);
        Supplier<ProxyVotes> carried = Check.after(tied, x -> x.cast(1));
        Supplier<ProxyVotes> lost = Check.after(tied, x -> x.cast(2));
        CHECK.asks("wouldBe, WAITING", ProxyVotes.TIED, waiting, x -> x.wouldBe(0));
        CHECK.asks("decisive, WAITING", 0, waiting, x -> x.decisive(0));
        CHECK.asks("needed, WAITING", NONE, waiting, x -> x.needed(0, 0));
        CHECK.asks("wouldBe, OPEN", ProxyVotes.TIED, open, x -> x.wouldBe(0));
        CHECK.asks("decisive, OPEN", 3, open, x -> x.decisive(0));
        CHECK.asks("needed, OPEN", 1, open, x -> x.needed(0, 0));
        String[] names = {"TIED", "CARRIED", "LOST"};
        int number = 0;
        for (Supplier<ProxyVotes> closed : java.util.List.of(tied, carried, lost)) {
            CHECK.due("the state", ProxyVotes.TIED + number, closed.get().ofItem(0, 2));
            CHECK.refused("wouldBe, " + names[number], NOT_POSSIBLE, closed, x -> x.wouldBe(0));
            CHECK.refused("decisive, " + names[number], NOT_POSSIBLE, closed, x -> x.decisive(0));
            CHECK.refused("needed, how many, " + names[number], NOT_POSSIBLE, closed, x -> x.needed(0, 0));
            CHECK.refused("needed, the set, " + names[number], NOT_POSSIBLE, closed, x -> x.needed(0, 1));
            number++;
        }
    }

    /** Member 1 has somebody since the last call that had to know it. */
    private static ProxyVotes newlyNamed() {
        ProxyVotes x = new ProxyVotes();
        x.come(x.member(1, 0));
        x.member(2, 0);
        x.come(x.member(1, 0));
        x.item(0, 0);
        x.item(0, 0);
        x.open(0);
        x.vote(0, 1);
        x.vote(2, 2);
        x.proxy(1, NONE, 0);
        return x;
    }

    private static void askedAtOnce() {
        CHECK.sentence("as things are now");
        Supplier<ProxyVotes> made = ForecastsEdgesTest::newlyNamed;
        CHECK.asks("who speaks for 1", 0, made, x -> x.at(1, 0, 0));
        CHECK.asks("how 1 counts", ProxyVotes.FOR, made, x -> x.at(1, 0, 3));
        CHECK.asks("for whom 0 speaks", 2, made, x -> x.at(0, 0, 6));
        CHECK.asks("the weight for it", 3, made, x -> x.ofItem(0, 4));
        CHECK.asks("the quorum", 1, Check.after(made, x -> x.set(ProxyVotes.QUORUM, 100)), x -> x.ofItem(0, 11));
        CHECK.asks("what it would be", ProxyVotes.CARRIED, made, x -> x.wouldBe(0));
        CHECK.asks("who is decisive", 1, made, x -> x.decisive(0));
        CHECK.asks("who is needed", 0, made, x -> x.needed(0, 1));
        CHECK.asks("who is needed for the other item", 1, made, x -> x.needed(1, 1));
        CHECK.asks("when the quorum is there", 0, Check.after(made, x -> x.set(ProxyVotes.QUORUM, 100)),
            x -> x.quorumAt(1));
        CHECK.change("closed", ProxyVotes.CARRIED, made, ProxyVotes::close);
        CHECK.change("the other one is opened", 4, Check.after(made, ProxyVotes::close), x -> x.open(1));
        CHECK.asks("after a question about the other item", ProxyVotes.CARRIED,
            Check.after(Check.after(made, x -> x.recuse(1, 1, 1)), x -> x.wouldBe(1)), x -> x.wouldBe(0));
    }

    private static void wouldBeAsIfOpen() {
        CHECK.sentence("Tells the state of an item if it were counted now, as if it were OPEN");
        ProxyVotes x = opened(0, 1, 1);
        x.item(0, 0);
        x.item(1, 0);
        x.item(2, 0);
        x.proxy(1, NONE, 0);
        x.go(1);
        CHECK.due("a majority of nobody", ProxyVotes.TIED, x.wouldBe(1));
        CHECK.due("two thirds of nobody", ProxyVotes.LOST, x.wouldBe(2));
        CHECK.due("all of nobody", ProxyVotes.LOST, x.wouldBe(3));
        for (int item = 1; item <= 3; item++) {
            x.tell(1, item, 1);
            CHECK.due("a told choice for it", ProxyVotes.CARRIED, x.wouldBe(item));
            x.tell(1, item, 2);
            CHECK.due("a told choice against it", ProxyVotes.LOST, x.wouldBe(item));
        }
        CHECK.due("the open one", ProxyVotes.TIED, x.wouldBe(0));
        x.vote(0, 1);
        CHECK.due("with a vote", ProxyVotes.CARRIED, x.wouldBe(0));
    }

    private static void wouldBeWithoutQuorum() {
        CHECK.sentence("without the quorum being asked");
        ProxyVotes x = opened(0, 1, 1);
        x.vote(0, 1);
        x.set(ProxyVotes.QUORUM, 100);
        x.go(0);
        CHECK.due("no quorum", 0, x.ofItem(0, 11));
        CHECK.due("it would be", ProxyVotes.CARRIED, x.wouldBe(0));
        CHECK.due("but it is put off", ProxyVotes.WAITING, x.close());
        CHECK.due("its votes are dropped", ProxyVotes.TIED, x.wouldBe(0));
    }

    private static void decisiveWhoCould() {
        CHECK.sentence("Tells which members who could vote for an item now");
        ProxyVotes x = opened(0, 1, 1, 1);
        CHECK.due("all", 7, x.decisive(0));
        x.go(2);
        CHECK.due("an absent one", 3, x.decisive(0));
        x.recuse(1, 0, 1);
        CHECK.due("one recused by hand", 1, x.decisive(0));
        x.recuse(1, 0, 0);
        x.come(2);
        CHECK.due("all again", 7, x.decisive(0));
        x.member(1, 2);
        x.item(0, 4);
        x.come(3);
        CHECK.due("one recused by the group", 7, x.decisive(1));
        CHECK.due("not for the other item", 15, x.decisive(0));
        x.vote(2, 1);
        x.go(2);
        CHECK.due("one who left a vote", 11, x.decisive(0));
    }

    private static void decisiveInPlace() {
        CHECK.sentence("could change by their vote alone, in place of what they did");
        ProxyVotes x = opened(0, 1, 1, 1);
        x.vote(0, 1);
        x.vote(1, 1);
        // 2 to 0: 1 to 1 if one of the two changes sides, still carried with 2 to 1.
        CHECK.due("2 to 0, in place of a vote", 3, x.decisive(0));
        x.vote(2, 1);
        CHECK.due("3 to 0", 0, x.decisive(0));
        x.vote(2, 2);
        CHECK.due("2 to 1", 3, x.decisive(0));
        x.vote(1, 0);
        CHECK.due("1 to 1", 7, x.decisive(0));
        CHECK.due("the votes are as before", 2, x.at(2, 0, 1));
        CHECK.due("the votes are as before", 0, x.at(1, 0, 1));
        ProxyVotes y = opened(0, 2, 1);
        y.vote(0, 0);
        CHECK.due("0 to 0", 3, y.decisive(0));
        y.vote(1, 1);
        CHECK.due("1 to 0; by abstaining, or against it", 3, y.decisive(0));
        y.vote(0, 1);
        CHECK.due("3 to 0; only the heavier one", 1, y.decisive(0));
        ProxyVotes z = opened(0, 1, 2);
        z.vote(0, 1);
        z.vote(1, 2);
        CHECK.due("1 to 2; only who is against it", 2, z.decisive(0));
    }

    private static void decisiveByTheirVoteAlone() {
        CHECK.sentence("what wouldBe() tells");
        ProxyVotes x = opened(0, 1, 1, 3);
        x.proxy(2, NONE, 0);
        x.go(2);
        x.vote(0, 1);
        x.vote(1, 2);
        // 4 to 1: member 0 has the weight of 2, too.
        CHECK.due("with those for whom one speaks", 1, x.decisive(0));
        x.tell(2, 0, 1);
        CHECK.due("with a told choice", 0, x.decisive(0));
        x.tell(2, 0, NONE);
        x.set(ProxyVotes.LIMIT, 0);
        CHECK.due("with nobody behind", 3, x.decisive(0));
        ProxyVotes y = opened(0, 1, 1, 1);
        y.proxy(0, NONE, 1);
        y.go(0);
        y.recuse(1, 0, 1);
        CHECK.due("a recused one speaks for nobody", 4, y.decisive(0));
    }

    private static void decisiveKinds() {
        CHECK.sentence("could change by their vote alone");
        ProxyVotes x = opened(1, 2, 1, 1);
        x.vote(0, 1);
        x.vote(1, 2);
        // 2 to 1 is carried; 2 to 2 is not; 3 is silent.
        CHECK.due("two thirds", 1 + 4, x.decisive(0));
        x.vote(2, 1);
        CHECK.due("3 to 1", 1 + 4, x.decisive(0));
        ProxyVotes y = opened(2, 1, 1, 1);
        y.vote(0, 1);
        CHECK.due("all, one for it", 7, y.decisive(0));
        y.vote(1, 0);
        CHECK.due("all, one abstains", 2, y.decisive(0));
        y.vote(2, 2);
        CHECK.due("all, two are not for it", 0, y.decisive(0));
        ProxyVotes z = opened(0, 1, 1);
        z.set(ProxyVotes.CASTING, 0);
        CHECK.due("LOST without CASTING: only to CARRIED", 3, z.decisive(0));
        z.vote(0, 2);
        CHECK.due("0 to 1: one more for it is a tie, which is LOST", 1, z.decisive(0));
        z.set(ProxyVotes.CASTING, 1);
        CHECK.due("with CASTING", 3, z.decisive(0));
    }

    private static void needed(String what, int number, int set, ProxyVotes x) {
        CHECK.due(what + ", how many", number, x.needed(0, 0));
        CHECK.due(what + ", the set", set, x.needed(0, 1));
    }

    private static void neededWhoCould() {
        CHECK.sentence("the fewest members among those who could vote for an item now and have given no vote");
        ProxyVotes x = opened(0, 1, 1, 1, 1);
        needed("the first", 1, 1, x);
        x.go(0);
        needed("the first is absent", 1, 2, x);
        x.recuse(1, 0, 1);
        needed("the second is recused", 1, 4, x);
        x.vote(2, 0);
        needed("the third has abstained", 1, 8, x);
        x.vote(3, 2);
        needed("the last has voted, too", NONE, NONE, x);
        x.recuse(1, 0, 0);
        needed("1 to 1 is not carried", NONE, NONE, x);
        x.come(0);
        needed("2 to 1", 2, 3, x);
        x.vote(2, 1);
        needed("1 to 1, and one more", 1, 1, x);
        ProxyVotes y = new ProxyVotes();
        y.come(y.member(1, 1));
        y.come(y.member(1, 0));
        y.item(0, 2);
        needed("the first is recused by the group", 1, 2, y);
    }

    private static void neededFewest() {
        CHECK.sentence("Finds the fewest members");
        ProxyVotes x = opened(0, 1, 1, 1, 2, 2);
        x.vote(4, 2);
        needed("more than 2: no single one", 2, 9, x);
        x.vote(4, 0);
        needed("more than 0", 1, 1, x);
        ProxyVotes y = opened(0, 1, 1, 1, 3, 2);
        y.vote(4, 2);
        needed("more than 2: one, though of a higher mask", 1, 8, y);
        ProxyVotes z = opened(0, 1, 1, 1, 3, 3);
        z.vote(4, 2);
        needed("more than 3: two", 2, 9, z);
        z.vote(3, 0);
        needed("three are 3 to 3", NONE, NONE, z);
        ProxyVotes w = opened(0, 1, 1, 1, 1, 4, 1);
        w.vote(0, 1);
        w.vote(4, 2);
        needed("1 to 4: four more", 4, 2 + 4 + 8 + 32, w);
        w.vote(1, 1);
        needed("2 to 4: three more", 3, 4 + 8 + 32, w);
        ProxyVotes v = opened(0, 2, 3, 1, 1, 1);
        v.vote(0, 1);
        v.vote(1, 2);
        needed("2 to 3: two more, though one would make a tie", 2, 4 + 8, v);
    }

    private static void neededLowestMask() {
        CHECK.sentence("of several sets of as few the lowest mask");
        ProxyVotes x = opened(0, 2, 3, 4, 5, 6);
        x.vote(4, 2);
        // More than 6: 2 + 5 is mask 9, 3 + 4 is mask 6.
        needed("the lower mask holds the higher member of all", 2, 6, x);
        ProxyVotes y = opened(0, 1, 1, 1, 1, 1, 1, 1, 1, 1, 1, 1, 1);
        for (int member = 0; member < 5; member++) {
            y.vote(member, 2);
        }
        needed("six of the last seven", 6, 0x7e0, y);
        y.vote(5, 2);
        needed("six are as many", NONE, NONE, y);
        y.vote(5, 0);
        needed("six of six", 6, 0xfc0, y);
        y.vote(6, 0);
        needed("five are as many", NONE, NONE, y);
    }

    private static void neededNow() {
        CHECK.sentence("(0, 0 if it would be CARRIED now)");
        ProxyVotes x = opened(0, 1, 1);
        x.vote(0, 1);
        needed("carried", 0, 0, x);
        ProxyVotes y = Committees.plain(2);
        y.come(0);
        y.proxy(1, NONE, 0);
        y.tell(1, 0, 1);
        needed("carried by a told choice, while it waits", 0, 0, y);
        y.tell(1, 0, 2);
        needed("against it", NONE, NONE, y);
    }

    private static void neededNone() {
        CHECK.sentence("NONE if there is no such set");
        ProxyVotes x = opened(0, 1, 1);
        x.vote(0, 2);
        needed("1 to 1 is a tie", NONE, NONE, x);
        x.vote(1, 0);
        needed("all have voted", NONE, NONE, x);
        needed("nobody is present", NONE, NONE, Committees.plain(2));
        ProxyVotes y = opened(0, 2, 3);
        y.vote(0, 2);
        needed("3 to 2", 1, 2, y);
    }

    private static void neededKinds() {
        CHECK.sentence("who all vote for it, so that it would be CARRIED");
        ProxyVotes x = opened(1, 1, 1, 1, 1);
        x.vote(3, 2);
        needed("two thirds: 2 to 1", 2, 3, x);
        x.vote(2, 2);
        needed("two thirds: 2 to 2", NONE, NONE, x);
        ProxyVotes w = opened(1, 9, 2, 2, 2, 2, 2, 2, 2, 1, 1, 1, 1);
        w.vote(0, 2);
        needed("two thirds: all of the eleven others, 18 to 9", 11, 0xffe, w);
        w.vote(11, 0);
        needed("two thirds: 17 to 9", NONE, NONE, w);
        ProxyVotes y = opened(2, 1, 1, 1);
        needed("all: one is enough", 1, 1, y);
        y.vote(2, 0);
        needed("all: one abstains", NONE, NONE, y);
        y.vote(2, 2);
        needed("all: one is against it", NONE, NONE, y);
        ProxyVotes z = opened(0, 1, 1, 1, 1);
        z.proxy(3, NONE, 1);
        z.go(3);
        z.vote(0, 2);
        needed("the second brings another one along", 1, 2, z);
        z.tell(3, 0, 0);
        needed("who abstains", 2, 6, z);
    }

    private static ProxyVotes weights(int... weights) {
        ProxyVotes x = new ProxyVotes();
        for (int weight : weights) {
            x.member(weight, 0);
        }
        return x;
    }

    private static void powerHalf() {
        CHECK.sentence(
            "without the member twice their weight is not more than the weight of all members, with the member it is");
        ProxyVotes x = weights(1, 1);
        // {} is 0 of 2, with the member 2 of 2, which is not more; {other} is 2 of 2, with the member 4.
        CHECK.due("just the half is not more", 1, x.power(0));
        CHECK.due("of the other one, too", 1, x.power(1));
        ProxyVotes y = weights(1, 1, 1);
        CHECK.due("one more than the half of 3", 2, y.power(0));
        ProxyVotes z = weights(2, 1, 1);
        // {}: 4 is not more than 4; {1}, {2}: 6 is; {1, 2}: 4 is not more than 4, with the member 8 is.
        CHECK.due("of half of the weight", 3, z.power(0));
        CHECK.due("of a quarter: only with the first alone", 1, z.power(1));
        CHECK.due("of a quarter: only with the first alone", 1, z.power(2));
        ProxyVotes w = weights(3, 1, 1);
        CHECK.due("of more than the half", 4, w.power(0));
        CHECK.due("no power", 0, w.power(1));
    }

    private static void powerOfAll() {
        CHECK.sentence("Counts the sets of other members for which a member makes the difference");
        CHECK.due("alone: the empty set", 1, weights(1).power(0));
        CHECK.due("alone, of the highest weight", 1, weights(9).power(0));
        int[] ones = {1, 1, 1, 1, 1, 1, 1, 1, 1, 1, 1, 1};
        int[] nines = {9, 9, 9, 9, 9, 9, 9, 9, 9, 9, 9, 9};
        for (int member = 0; member < 12; member++) {
            CHECK.due("6 of 11 others", 462, weights(ones).power(member));
            CHECK.due("6 of 11 others, of the highest weight", 462, weights(nines).power(member));
        }
        ProxyVotes x = weights(9, 1, 1, 1, 1, 1, 1, 1);
        CHECK.due("9 of 16: all sets", 128, x.power(0));
        CHECK.due("1 of 16: none", 0, x.power(7));
        ProxyVotes y = weights(9, 1, 1, 1, 1, 1, 1, 1, 1, 1);
        // 9 of 18: all but the empty set.
        CHECK.due("9 of 18", 511, y.power(0));
        CHECK.due("1 of 18: with the first alone", 1, y.power(9));
        ProxyVotes z = weights(9, 1, 1, 1, 1, 1, 1, 1, 1, 1, 1, 1);
        // 9 of 20: all sets of more than one, but the one of all is 11 without, which is more.
        CHECK.due("9 of 20", 2048 - 1 - 11 - 1, z.power(0));
    }

    /** Counts them one by one. */
    private static int sets(int[] weights, int member) {
        int all = 0;
        for (int weight : weights) {
            all += weight;
        }
        int number = 0;
        for (int set = 0; set < 1 << weights.length; set++) {
            int without = 0;
            for (int other = 0; other < weights.length; other++) {
                without += (set >> other & 1) * weights[other];
            }
            boolean others = (set >> member & 1) == 0;
            number += others && 2 * without <= all && 2 * (without + weights[member]) > all ? 1 : 0;
        }
        return number;
    }

    private static void powerSets() {
        CHECK.sentence("Counts the sets of other members");
        int[][] rows = {{9, 9, 9, 9, 9, 9, 9, 9, 9, 9, 9, 1}, {1, 2, 3, 4, 5, 6, 7, 8, 9, 1, 2, 3}, {5, 4, 3, 2, 1},
            {9, 8, 7, 6, 5, 4, 3, 2, 1}, {1, 9}, {9, 9, 1}, {4, 4, 4, 4, 4, 4, 4, 4, 4, 4, 4, 9}};
        for (int[] row : rows) {
            ProxyVotes x = weights(row);
            for (int member = 0; member < row.length; member++) {
                CHECK.due("power of " + member + " of " + row.length, sets(row, member), x.power(member));
            }
        }
    }

    private static void bestWhoCan() {
        CHECK.sentence("of the members who are present and not recused");
        ProxyVotes x = Committees.plain(4);
        CHECK.due("nobody is present", NONE, x.bestHolder(3, 0));
        x.come(2);
        CHECK.due("the only one", 2, x.bestHolder(3, 0));
        x.come(1);
        CHECK.due("the lower one", 1, x.bestHolder(3, 0));
        x.recuse(1, 0, 1);
        CHECK.due("the lower one is recused", 2, x.bestHolder(3, 0));
        x.recuse(2, 0, 1);
        CHECK.due("both are recused", NONE, x.bestHolder(3, 0));
        ProxyVotes y = new ProxyVotes();
        y.member(1, 0);
        y.come(y.member(1, 1));
        y.item(0, 2);
        y.item(0, 0);
        CHECK.due("recused by the group", NONE, y.bestHolder(0, 0));
        CHECK.due("not for the other item", 1, y.bestHolder(0, 1));
    }

    private static void bestFewest() {
        CHECK.sentence("and the one who is named speaks for the fewest absent members then");
        ProxyVotes x = Committees.plain(8);
        x.set(ProxyVotes.LIMIT, 6);
        x.come(6);
        x.come(7);
        CHECK.due("none and none", 6, x.bestHolder(0, 0));
        x.proxy(1, NONE, 6);
        CHECK.due("one and none", 7, x.bestHolder(0, 0));
        x.proxy(2, NONE, 7);
        CHECK.due("one and one", 6, x.bestHolder(0, 0));
        x.proxy(0, NONE, 6);
        // Where the member is counted already, it is not counted twice.
        CHECK.due("the member is behind the lower one", 6, x.bestHolder(0, 0));
        x.proxy(3, NONE, 6);
        CHECK.due("and another one, too", 7, x.bestHolder(0, 0));
        x.recuse(3, 0, 1);
        CHECK.due("who is recused", 6, x.bestHolder(0, 0));
    }

    private static void bestLowest() {
        CHECK.sentence("of several the lowest one");
        ProxyVotes x = Committees.plain(12);
        for (int member = 11; member >= 1; member--) {
            x.come(member);
            CHECK.due("all are as good", member, x.bestHolder(0, 0));
        }
        x.go(11);
        CHECK.due("for the last one", 1, x.bestHolder(11, 0));
    }

    private static ProxyVotes pair() {
        ProxyVotes x = Committees.plain(2);
        x.come(1);
        return x;
    }

    private static void bestOfWhom() {
        CHECK.sentence(
            "NOT_POSSIBLE if the member is present, or recused for the item, or has named a holder for just this");
        Supplier<ProxyVotes> pair = ForecastsEdgesTest::pair;
        CHECK.asks("absent", 1, pair, x -> x.bestHolder(0, 0));
        CHECK.refused("present", NOT_POSSIBLE, Check.after(pair, x -> x.come(0)), x -> x.bestHolder(0, 0));
        CHECK.refused("the only one who is present", NOT_POSSIBLE, pair, x -> x.bestHolder(1, 0));
        CHECK.refused("recused", NOT_POSSIBLE, Check.after(pair, x -> x.recuse(0, 0, 1)), x -> x.bestHolder(0, 0));
        CHECK.refused("a holder for just this one", NOT_POSSIBLE, Check.after(pair, x -> x.proxy(0, 0, 1)),
            x -> x.bestHolder(0, 0));
        CHECK.asks("a holder for all items", 1, Check.after(pair, x -> x.proxy(0, NONE, 1)), x -> x.bestHolder(0, 0));
        CHECK.asks("a holder taken back", 1, Check.after(Check.after(pair, x -> x.proxy(0, 0, 1)),
            x -> x.proxy(0, 0, NONE)), x -> x.bestHolder(0, 0));
        Supplier<ProxyVotes> two = Check.after(Check.after(pair, x -> x.item(0, 1)), x -> x.proxy(0, 0, 1));
        CHECK.refused("recused by the group for the other item", NOT_POSSIBLE, two, x -> x.bestHolder(0, 1));
        Supplier<ProxyVotes> other = Check.after(Check.after(pair, x -> x.item(0, 0)), x -> x.proxy(0, 0, 1));
        CHECK.asks("a holder for just another item", 1, other, x -> x.bestHolder(0, 1));
    }

    private static void bestPlaces() {
        CHECK.sentence("so that this one has somebody for an item");
        ProxyVotes x = Committees.plain(4);
        x.come(3);
        x.set(ProxyVotes.LIMIT, 0);
        CHECK.due("no place", NONE, x.bestHolder(1, 0));
        x.set(ProxyVotes.LIMIT, 1);
        CHECK.due("one place", 3, x.bestHolder(1, 0));
        x.proxy(0, NONE, 3);
        CHECK.due("a lower one has it", NONE, x.bestHolder(1, 0));
        x.set(ProxyVotes.LIMIT, 2);
        CHECK.due("two places", 3, x.bestHolder(1, 0));
        x.proxy(2, NONE, 3);
        CHECK.due("a higher one loses it", 3, x.bestHolder(1, 0));
        x.proxy(1, NONE, 3);
        CHECK.due("a higher one has lost it", NONE, x.bestHolder(2, 0));
        x.recuse(0, 0, 1);
        CHECK.due("a recused one has no place", 3, x.bestHolder(2, 0));
    }

    private static void bestComeAlong() {
        CHECK.sentence("speaks for the fewest absent members then");
        ProxyVotes x = Committees.plain(6);
        x.come(4);
        x.come(5);
        x.proxy(0, NONE, 2);
        x.proxy(1, 0, 2);
        x.set(ProxyVotes.LIMIT, 2);
        CHECK.due("two lower ones come along", NONE, x.bestHolder(2, 0));
        x.set(ProxyVotes.LIMIT, 3);
        CHECK.due("there is place for three", 4, x.bestHolder(2, 0));
        x.proxy(3, NONE, 4);
        CHECK.due("two and one: of three places both are full", 4, x.bestHolder(2, 0));
        x.set(ProxyVotes.LIMIT, 4);
        CHECK.due("four and three", 5, x.bestHolder(2, 0));
        x.set(ProxyVotes.CHAIN, 0);
        CHECK.due("nobody comes along without CHAIN: two and one", 5, x.bestHolder(2, 0));
        x.proxy(3, NONE, NONE);
        CHECK.due("one and one", 4, x.bestHolder(2, 0));
    }

    private static void bestNobody() {
        CHECK.sentence("NONE if there is nobody");
        CHECK.asks("nobody is present", NONE, () -> Committees.plain(2), x -> x.bestHolder(0, 0));
        CHECK.asks("there is no other member", NONE, () -> Committees.plain(1), x -> x.bestHolder(0, 0));
        CHECK.asks("the other one is recused", NONE, Check.after(ForecastsEdgesTest::pair, x -> x.recuse(1, 0, 1)),
            x -> x.bestHolder(0, 0));
        CHECK.asks("there is no place", NONE, Check.after(ForecastsEdgesTest::pair,
            x -> x.set(ProxyVotes.LIMIT, 0)), x -> x.bestHolder(0, 0));
    }
}
