import java.util.function.Supplier;

/** The sentences of "Counting", of open(), vote(), close() and cast(), each with its boundary. */
public final class CountingEdgesTest {
    private static final int NOT_POSSIBLE = -5, NONE = -6;
    private static final Check CHECK = new Check();

    public static void main(String[] args) {
        whoCanVote();
        votesStand();
        recusedFirst();
        ownVoteSecond();
        silentThird();
        unheardFourth();
        toldFifth();
        speakerLast();
        quorumOfAll();
        quorumPercent();
        quorumWhoIsThere();
        quorumLate();
        majority();
        twoThirds();
        all();
        withoutCasting();
        openStates();
        voteBefore();
        closeWithoutQuorum();
        closeWithQuorum();
        sumsOfThen();
        castLowest();
        castWhatever();
        castByWhom();
        tellStates();
        recuseStates();
        CHECK.end();
    }

    private static void whoCanVote() {
        CHECK.sentence("While an item is OPEN, a member who is present and not recused can vote");
        Supplier<ProxyVotes> open = () -> Committees.opened(2);
        CHECK.change("present and not recused", NONE, open, x -> x.vote(1, 0));
        CHECK.refused("absent", NOT_POSSIBLE, Check.after(open, x -> x.go(1)), x -> x.vote(1, 1));
        CHECK.refused("recused by hand", NOT_POSSIBLE, Check.after(open, x -> x.recuse(1, 0, 1)), x -> x.vote(1, 1));
        CHECK.refused("recused by the group", NOT_POSSIBLE, CountingEdgesTest::touched, x -> x.vote(1, 1));
        CHECK.refused("WAITING", NOT_POSSIBLE, () -> present(2), x -> x.vote(1, 1));
        CHECK.refused("TIED", NOT_POSSIBLE, Check.after(open, ProxyVotes::close), x -> x.vote(1, 1));
        ProxyVotes x = open.get();
        x.go(1);
        x.come(1);
        CHECK.due("present again", NONE, x.vote(1, 1));
        x.recuse(0, 0, 1);
        x.recuse(0, 0, 0);
        CHECK.due("not recused any more", NONE, x.vote(0, 1));
    }

    private static ProxyVotes present(int members) {
        ProxyVotes x = Committees.plain(members);
        for (int member = 0; member < members; member++) {
            x.come(member);
        }
        return x;
    }

    /** Member 1 is recused by the group for the item that is OPEN. */
    private static ProxyVotes touched() {
        ProxyVotes x = new ProxyVotes();
        x.member(1, 0);
        x.member(1, 1);
        x.item(0, 2);
        x.come(0);
        x.come(1);
        x.open(0);
        return x;
    }

    private static void votesStand() {
        CHECK.sentence("A vote that was given stands, also when the member leaves or is recused by hand later");
        for (int choice = 0; choice <= 2; choice++) {
            ProxyVotes x = Committees.opened(3);
            x.vote(1, choice);
            x.go(1);
            CHECK.due("when the member has left", choice, x.at(1, 0, 1));
            CHECK.due("it counts", choice, x.at(1, 0, 3));
            CHECK.due("it stands", 1, x.ofMember(1, 4));
            CHECK.sentence("(it does not count then, as long as the member is recused)");
            x.recuse(1, 0, 1);
            CHECK.due("when the member is recused", choice, x.at(1, 0, 1));
            CHECK.due("it does not count", ProxyVotes.RECUSED, x.at(1, 0, 3));
            CHECK.due("but it stands", 1, x.ofMember(1, 4));
            x.come(1);
            CHECK.due("not either when present again", ProxyVotes.RECUSED, x.at(1, 0, 3));
            x.recuse(1, 0, 0);
            CHECK.due("it counts again", choice, x.at(1, 0, 3));
            CHECK.due("in the place of another one", choice, x.vote(1, 2 - choice));
            CHECK.sentence("A vote that was given stands, also when the member leaves or is recused by hand later");
        }
    }

    private static void recusedFirst() {
        CHECK.sentence("RECUSED (5) if the member is recused");
        ProxyVotes x = Committees.opened(2);
        x.vote(0, 1);
        x.recuse(0, 0, 1);
        CHECK.due("before the own vote", ProxyVotes.RECUSED, x.at(0, 0, 3));
        x.recuse(1, 0, 1);
        CHECK.due("before SILENT", ProxyVotes.RECUSED, x.at(1, 0, 3));
        x.go(1);
        CHECK.due("before UNHEARD", ProxyVotes.RECUSED, x.at(1, 0, 3));
        x.tell(1, 0, 1);
        x.proxy(1, NONE, 0);
        CHECK.due("before the told choice", ProxyVotes.RECUSED, x.at(1, 0, 3));
        CHECK.same("the sums", Check.row(0, 0, 0, 0, 0, 2), Check.sums(x, 0));
    }

    private static void ownVoteSecond() {
        CHECK.sentence("by the own vote, if one was given: ABSTAINED (0), FOR (1) or AGAINST (2)");
        for (int choice = 0; choice <= 2; choice++) {
            ProxyVotes x = Committees.opened(3);
            x.vote(0, choice);
            CHECK.due("before SILENT", choice, x.at(0, 0, 3));
            x.tell(0, 0, (choice + 1) % 3);
            x.go(0);
            CHECK.due("before UNHEARD", choice, x.at(0, 0, 3));
            x.proxy(0, NONE, 1);
            CHECK.due("before the told choice", choice, x.at(0, 0, 3));
            x.tell(0, 0, NONE);
            x.vote(1, (choice + 1) % 3);
            CHECK.due("before the vote of the one who speaks", choice, x.at(0, 0, 3));
        }
    }

    private static void silentThird() {
        CHECK.sentence("SILENT (3) if the member is present");
        ProxyVotes x = Committees.opened(2);
        x.tell(0, 0, 1);
        x.proxy(0, NONE, 1);
        x.vote(1, 2);
        CHECK.due("before the told choice and the one who would speak", ProxyVotes.SILENT, x.at(0, 0, 3));
        x.go(0);
        CHECK.due("absent", ProxyVotes.FOR, x.at(0, 0, 3));
    }

    private static void unheardFourth() {
        CHECK.sentence("UNHEARD (4) if the member has nobody");
        ProxyVotes x = Committees.opened(2);
        x.go(0);
        x.tell(0, 0, 1);
        CHECK.due("before the told choice", ProxyVotes.UNHEARD, x.at(0, 0, 3));
        x.proxy(0, NONE, 1);
        CHECK.due("with somebody", ProxyVotes.FOR, x.at(0, 0, 3));
        x.set(ProxyVotes.LIMIT, 0);
        CHECK.due("there is no place", ProxyVotes.UNHEARD, x.at(0, 0, 3));
        x.set(ProxyVotes.LIMIT, 1);
        x.recuse(1, 0, 1);
        CHECK.due("the one who would speak is recused", ProxyVotes.UNHEARD, x.at(0, 0, 3));
    }

    private static void toldFifth() {
        CHECK.sentence("by the told choice, if there is one: 0, 1 or 2");
        for (int choice = 0; choice <= 2; choice++) {
            ProxyVotes x = Committees.opened(2);
            x.go(0);
            x.proxy(0, NONE, 1);
            x.tell(0, 0, choice);
            CHECK.due("the one who speaks has not voted", choice, x.at(0, 0, 3));
            x.vote(1, (choice + 1) % 3);
            CHECK.due("before the vote of the one who speaks", choice, x.at(0, 0, 3));
            x.tell(0, 0, NONE);
            CHECK.due("none any more", (choice + 1) % 3, x.at(0, 0, 3));
        }
    }

    private static void speakerLast() {
        CHECK.sentence("by the own vote of the one who speaks for the member, if one was given: 0, 1 or 2");
        for (int choice = 0; choice <= 2; choice++) {
            ProxyVotes x = Committees.opened(3);
            x.go(0);
            x.proxy(0, NONE, 1);
            CHECK.due("otherwise SILENT (3)", ProxyVotes.SILENT, x.at(0, 0, 3));
            x.tell(1, 0, 2 - choice);
            CHECK.due("not by what the one who speaks told", ProxyVotes.SILENT, x.at(0, 0, 3));
            x.vote(1, choice);
            CHECK.due("by that vote", choice, x.at(0, 0, 3));
            x.proxy(1, NONE, 2);
            x.go(1);
            CHECK.due("the vote of one on the way is not asked", ProxyVotes.SILENT, x.at(0, 0, 3));
            CHECK.due("it is the own one of that one", choice, x.at(1, 0, 3));
        }
    }

    /** An item, and members of these weights, who are present or absent. */
    private static ProxyVotes there(int[] present, int[] absent) {
        ProxyVotes x = new ProxyVotes();
        for (int weight : present) {
            x.come(x.member(weight, 0));
        }
        for (int weight : absent) {
            x.member(weight, 0);
        }
        x.item(0, 0);
        return x;
    }

    private static void quorumOfAll() {
        CHECK.sentence("at least the weight of all members times QUORUM");
        ProxyVotes x = there(new int[] {5}, new int[] {5});
        CHECK.due("5 of 10 are 50", 1, x.ofItem(0, 11));
        CHECK.due("open", 5, x.open(0));
        ProxyVotes y = there(new int[] {5}, new int[] {5, 1});
        CHECK.due("5 of 11 are less than 50", 0, y.ofItem(0, 11));
        CHECK.due("open", NOT_POSSIBLE, y.open(0));
        ProxyVotes z = there(new int[] {6}, new int[] {5});
        CHECK.due("6 of 11 are more than 50", 1, z.ofItem(0, 11));
    }

    private static void quorumPercent() {
        CHECK.sentence("The quorum is there for an item if 100 times the weight of all members who are present");
        for (int heavy = 0; heavy <= 11; heavy++) {
            for (int light = 0; light <= 1; light++) {
                // The weight of all is 100, so that each weight makes as many percent.
                ProxyVotes x = hundred(light, heavy);
                int there = light + 9 * heavy;
                for (int percent = 0; percent <= 100; percent++) {
                    x.set(ProxyVotes.QUORUM, percent);
                    CHECK.due(there + " of 100 for " + percent, there >= percent ? 1 : 0, x.ofItem(0, 11));
                }
            }
        }
        CHECK.sentence("QUORUM (0 to 100; 50)");
        ProxyVotes none = there(new int[] {}, new int[] {9});
        none.set(ProxyVotes.QUORUM, 1);
        CHECK.due("0 of 9 are less than 1", 0, none.ofItem(0, 11));
        none.set(ProxyVotes.QUORUM, 0);
        CHECK.due("0 of 9 are 0", 1, none.ofItem(0, 11));
        ProxyVotes all = there(new int[] {9, 9, 9, 9, 9, 9, 9, 9, 9, 9}, new int[] {1});
        all.set(ProxyVotes.QUORUM, 100);
        CHECK.due("90 of 91 are less than 100", 0, all.ofItem(0, 11));
        all.set(ProxyVotes.QUORUM, 99);
        CHECK.due("90 of 91 are less than 99", 0, all.ofItem(0, 11));
        all.set(ProxyVotes.QUORUM, 98);
        CHECK.due("90 of 91 are more than 98", 1, all.ofItem(0, 11));
        all.set(ProxyVotes.QUORUM, 100);
        all.come(10);
        CHECK.due("all are 100", 1, all.ofItem(0, 11));
    }

    /** A member of weight 1 and eleven of weight 9, of whom so many are present. */
    private static ProxyVotes hundred(int light, int heavy) {
        ProxyVotes x = new ProxyVotes();
        x.item(0, 0);
        x.member(1, 0);
        if (light == 1) {
            x.come(0);
        }
        for (int member = 1; member <= 11; member++) {
            x.member(9, 0);
            if (member <= heavy) {
                x.come(member);
            }
        }
        return x;
    }

    private static void quorumWhoIsThere() {
        CHECK.sentence("recused ones who are present, too; recused ones who are absent not");
        ProxyVotes x = there(new int[] {1}, new int[] {1});
        x.set(ProxyVotes.QUORUM, 100);
        x.proxy(1, NONE, 0);
        CHECK.due("one is present, the other one has somebody", 1, x.ofItem(0, 11));
        x.recuse(1, 0, 1);
        CHECK.due("the absent one is recused", 0, x.ofItem(0, 11));
        x.come(1);
        CHECK.due("the recused one is present", 1, x.ofItem(0, 11));
        x.recuse(0, 0, 1);
        CHECK.due("both are recused and present", 1, x.ofItem(0, 11));
        CHECK.due("open tells the weight", 2, x.open(0));
        x.undo();
        x.recuse(1, 0, 0);
        x.go(1);
        CHECK.due("the one who would speak is recused", 0, x.ofItem(0, 11));
        x.recuse(0, 0, 0);
        x.set(ProxyVotes.LIMIT, 0);
        CHECK.due("there is no place", 0, x.ofItem(0, 11));
        x.tell(1, 0, 1);
        CHECK.due("a told choice is nobody", 0, x.ofItem(0, 11));
    }

    private static void quorumLate() {
        CHECK.sentence("or times LATE_QUORUM from the minute LATE on");
        int[] lates = {0, 1, 240, 599, 600};
        for (int late : lates) {
            ProxyVotes x = there(new int[] {5}, new int[] {5});
            x.set(ProxyVotes.QUORUM, 51);
            x.set(ProxyVotes.LATE_QUORUM, 50);
            x.set(ProxyVotes.LATE, late);
            if (late > 1) {
                x.pass(late - 1);
            }
            if (late > 0) {
                CHECK.due("before " + late, 0, x.ofItem(0, 11));
                CHECK.due("open before " + late, NOT_POSSIBLE, x.open(0));
                x.pass(1);
            }
            CHECK.due("from " + late + " on", 1, x.ofItem(0, 11));
            x.set(ProxyVotes.LATE_QUORUM, 51);
            CHECK.due("not enough from " + late + " on", 0, x.ofItem(0, 11));
            x.set(ProxyVotes.QUORUM, 0);
            CHECK.due("QUORUM is not asked from " + late + " on", 0, x.ofItem(0, 11));
            x.set(ProxyVotes.LATE_QUORUM, 50);
            CHECK.due("open from " + late + " on", 5, x.open(0));
        }
        CHECK.sentence("LATE_QUORUM (0 to 100; 34)");
        ProxyVotes y = there(new int[] {1, 1, 1}, new int[] {6});
        y.pass(240);
        CHECK.due("3 of 9 are less than 34", 0, y.ofItem(0, 11));
        ProxyVotes z = there(new int[] {9, 8}, new int[] {9, 9, 9, 6});
        z.pass(239);
        CHECK.due("17 of 50 are less than 50", 0, z.ofItem(0, 11));
        z.pass(1);
        CHECK.due("17 of 50 are 34", 1, z.ofItem(0, 11));
    }

    /** What an item of a kind would be, and is, with these weights for it, against it, and abstaining. */
    private static void counted(int kind, int[] sums, int due) {
        ProxyVotes x = new ProxyVotes();
        x.item(kind, 8);
        for (int choice = 0; choice <= 2; choice++) {
            for (int left = sums[choice]; left > 0; left -= 9) {
                x.come(x.member(Math.min(9, left), 0));
            }
        }
        // These count in the other three ways, and make no difference.
        x.come(x.member(9, 0));
        x.member(9, 0);
        x.come(x.member(9, 3));
        x.set(ProxyVotes.QUORUM, 0);
        x.open(0);
        int member = 0;
        for (int choice = 0; choice <= 2; choice++) {
            for (int left = sums[choice]; left > 0; left -= 9) {
                x.vote(member, choice);
                member++;
            }
        }
        String what = sums[1] + " for, " + sums[2] + " against, " + sums[0] + " abstaining";
        CHECK.same(what, Check.row(sums[0], sums[1], sums[2], 9, 9, 9), Check.sums(x, 0));
        CHECK.due(what + ", it would be", due, x.wouldBe(0));
        CHECK.due(what, due, x.close());
        CHECK.due(what, due, x.ofItem(0, 2));
        CHECK.same(what + ", closed", Check.row(sums[0], sums[1], sums[2], 9, 9, 9), Check.sums(x, 0));
    }

    private static int[] row(int inFavour, int against, int abstained) {
        return new int[] {abstained, inFavour, against};
    }

    private static void majority() {
        CHECK.sentence(
            "An item of kind 0 is CARRIED if FOR is more than AGAINST, TIED if they are equal, otherwise LOST.");
        counted(0, row(0, 0, 0), ProxyVotes.TIED);
        counted(0, row(0, 0, 9), ProxyVotes.TIED);
        counted(0, row(1, 0, 0), ProxyVotes.CARRIED);
        counted(0, row(1, 0, 27), ProxyVotes.CARRIED);
        counted(0, row(0, 1, 0), ProxyVotes.LOST);
        counted(0, row(1, 1, 0), ProxyVotes.TIED);
        counted(0, row(18, 17, 0), ProxyVotes.CARRIED);
        counted(0, row(18, 18, 5), ProxyVotes.TIED);
        counted(0, row(17, 18, 5), ProxyVotes.LOST);
    }

    private static void twoThirds() {
        CHECK.sentence("An item of kind 1 is CARRIED if FOR is above 0, and 3 * FOR is at least 2 * (FOR + AGAINST)");
        counted(1, row(0, 0, 0), ProxyVotes.LOST);
        counted(1, row(0, 0, 9), ProxyVotes.LOST);
        counted(1, row(0, 1, 0), ProxyVotes.LOST);
        counted(1, row(1, 0, 0), ProxyVotes.CARRIED);
        counted(1, row(1, 0, 36), ProxyVotes.CARRIED);
        counted(1, row(1, 1, 0), ProxyVotes.LOST);
        counted(1, row(2, 1, 0), ProxyVotes.CARRIED);
        counted(1, row(3, 2, 0), ProxyVotes.LOST);
        counted(1, row(4, 2, 9), ProxyVotes.CARRIED);
        counted(1, row(5, 3, 0), ProxyVotes.LOST);
        counted(1, row(36, 18, 0), ProxyVotes.CARRIED);
        counted(1, row(35, 18, 0), ProxyVotes.LOST);
        counted(1, row(36, 19, 0), ProxyVotes.LOST);
        counted(1, row(37, 18, 0), ProxyVotes.CARRIED);
    }

    private static void all() {
        CHECK.sentence("of kind 2 if FOR is above 0, and ABSTAINED and AGAINST are 0; otherwise LOST");
        counted(2, row(0, 0, 0), ProxyVotes.LOST);
        counted(2, row(1, 0, 0), ProxyVotes.CARRIED);
        counted(2, row(54, 0, 0), ProxyVotes.CARRIED);
        counted(2, row(54, 0, 1), ProxyVotes.LOST);
        counted(2, row(54, 1, 0), ProxyVotes.LOST);
        counted(2, row(0, 1, 0), ProxyVotes.LOST);
        counted(2, row(0, 0, 1), ProxyVotes.LOST);
        counted(2, row(1, 1, 1), ProxyVotes.LOST);
    }

    private static void withoutCasting() {
        CHECK.sentence("If it would be TIED, and CASTING is 0, it is LOST.");
        for (int votes = 0; votes <= 1; votes++) {
            ProxyVotes x = Committees.opened(2);
            if (votes == 1) {
                x.vote(0, 1);
                x.vote(1, 2);
            }
            CHECK.due("CASTING is 1", ProxyVotes.TIED, x.wouldBe(0));
            x.set(ProxyVotes.CASTING, 0);
            CHECK.due("CASTING is 0", ProxyVotes.LOST, x.wouldBe(0));
            CHECK.due("closed", ProxyVotes.LOST, x.close());
            CHECK.due("there is no tie to break", NOT_POSSIBLE, x.cast(1));
        }
        ProxyVotes y = Committees.opened(2);
        y.set(ProxyVotes.CASTING, 0);
        y.vote(0, 1);
        CHECK.due("1 to 0 is no tie", ProxyVotes.CARRIED, y.wouldBe(0));
        y.vote(0, 2);
        CHECK.due("0 to 1 is no tie", ProxyVotes.LOST, y.wouldBe(0));
    }

    private static void openStates() {
        CHECK.sentence("NOT_POSSIBLE if it is not WAITING, another one is OPEN, or the quorum is not there for it");
        CHECK.change("WAITING", 3, Committees::tied, x -> x.open(2));
        CHECK.refused("OPEN", NOT_POSSIBLE, () -> Committees.opened(2), x -> x.open(0));
        CHECK.refused("TIED", NOT_POSSIBLE, Committees::tied, x -> x.open(0));
        CHECK.refused("LOST", NOT_POSSIBLE, Committees::tied, x -> x.open(1));
        CHECK.refused("CARRIED", NOT_POSSIBLE, Check.after(Committees::tied, x -> x.cast(1)), x -> x.open(0));
        CHECK.refused("another one is OPEN", NOT_POSSIBLE, Committees::busy, x -> x.open(2));
        CHECK.refused("no quorum", NOT_POSSIBLE, () -> there(new int[] {4}, new int[] {5}), x -> x.open(0));
        CHECK.sentence("Returns the weight that is there for it, as for the quorum");
        ProxyVotes x = there(new int[] {4, 3}, new int[] {2, 1});
        x.proxy(2, NONE, 0);
        x.recuse(1, 0, 1);
        CHECK.due("present, recused and present, with somebody, with nobody", 4 + 3 + 2, x.open(0));
    }

    private static void voteBefore() {
        CHECK.sentence("Returns the vote that was given before, NONE if there was none");
        ProxyVotes x = Committees.opened(2);
        CHECK.due("none", NONE, x.vote(0, 0));
        CHECK.due("0 is none of none", 0, x.vote(0, 2));
        CHECK.due("2", 2, x.vote(0, 1));
        CHECK.due("1", 1, x.vote(0, 1));
        CHECK.due("none of the other one", NONE, x.vote(1, 1));
        CHECK.due("one vote each", 1, x.ofMember(0, 4));
        x.undo();
        x.undo();
        x.undo();
        CHECK.due("undone", 2, x.at(0, 0, 1));
    }

    /** The item is OPEN, with a vote and a told choice; the quorum of 60 percent is not there any more. */
    private static ProxyVotes putOff() {
        ProxyVotes x = there(new int[] {6, 1}, new int[] {3});
        x.set(ProxyVotes.QUORUM, 60);
        x.tell(2, 0, 2);
        x.open(0);
        x.vote(0, 1);
        x.vote(1, 0);
        x.go(0);
        return x;
    }

    private static void closeWithoutQuorum() {
        CHECK.sentence("If the quorum is not there any more, it is WAITING again, and all votes for it are dropped");
        CHECK.change("no quorum", ProxyVotes.WAITING, CountingEdgesTest::putOff, ProxyVotes::close);
        ProxyVotes x = putOff();
        x.close();
        CHECK.due("WAITING", ProxyVotes.WAITING, x.ofItem(0, 2));
        CHECK.due("no vote of one who left", NONE, x.at(0, 0, 1));
        CHECK.due("no vote of one who abstained", NONE, x.at(1, 0, 1));
        CHECK.due("no vote stands", 0, x.ofMember(0, 4));
        CHECK.sentence("(told choices stay)");
        CHECK.due("it is told", 2, x.at(2, 0, 2));
        CHECK.sentence("10 how often it was put off for want of a quorum");
        CHECK.due("once", 1, x.ofItem(0, 10));
        CHECK.sentence("3 to 8 the sums of the weights in the six ways (while it is WAITING or OPEN as things are");
        CHECK.same("as things are", Check.row(0, 0, 0, 1, 9, 0), Check.sums(x, 0));
        x.come(0);
        CHECK.due("opened again", 7, x.open(0));
        CHECK.due("the same one votes for the first time", NONE, x.vote(0, 2));
        x.go(1);
        CHECK.due("60 of 100 are there", ProxyVotes.LOST, x.close());
        CHECK.due("not put off again", 1, x.ofItem(0, 10));
        ProxyVotes y = putOff();
        y.close();
        y.set(ProxyVotes.QUORUM, 0);
        y.open(0);
        y.set(ProxyVotes.QUORUM, 100);
        y.close();
        CHECK.due("twice", 2, y.ofItem(0, 10));
    }

    private static void closeWithQuorum() {
        CHECK.sentence("otherwise it is as it was counted");
        ProxyVotes x = putOff();
        x.set(ProxyVotes.QUORUM, 10);
        CHECK.due("just the quorum", ProxyVotes.CARRIED, x.close());
        CHECK.due("not put off", 0, x.ofItem(0, 10));
        ProxyVotes y = putOff();
        y.set(ProxyVotes.QUORUM, 11);
        CHECK.due("not the quorum", ProxyVotes.WAITING, y.close());
        ProxyVotes z = putOff();
        z.set(ProxyVotes.LATE_QUORUM, 10);
        z.pass(239);
        CHECK.due("not late yet", ProxyVotes.WAITING, z.close());
        z.undo();
        z.pass(1);
        CHECK.due("late", ProxyVotes.CARRIED, z.close());
    }

    private static void sumsOfThen() {
        CHECK.sentence("then as they were when it was closed");
        ProxyVotes x = Committees.opened(3);
        x.vote(0, 1);
        x.vote(1, 2);
        CHECK.same("open", Check.row(0, 1, 1, 1, 0, 0), Check.sums(x, 0));
        x.go(2);
        CHECK.same("open, as things are", Check.row(0, 1, 1, 0, 1, 0), Check.sums(x, 0));
        x.close();
        x.come(2);
        CHECK.same("TIED", Check.row(0, 1, 1, 0, 1, 0), Check.sums(x, 0));
        CHECK.due("at() tells things as they are now", ProxyVotes.SILENT, x.at(2, 0, 3));
        x.cast(2);
        x.member(9, 0);
        CHECK.same("LOST", Check.row(0, 1, 1, 0, 1, 0), Check.sums(x, 0));
    }

    private static void castLowest() {
        CHECK.sentence("The chair of the moment breaks the tie of the TIED item with the lowest number");
        ProxyVotes x = present(1);
        x.item(0, 0);
        x.item(0, 0);
        for (int item = 2; item >= 0; item--) {
            x.open(item);
            x.close();
        }
        CHECK.due("the first", ProxyVotes.LOST, x.cast(2));
        CHECK.due("the first", ProxyVotes.LOST, x.ofItem(0, 2));
        CHECK.due("the second is tied", ProxyVotes.TIED, x.ofItem(1, 2));
        CHECK.due("the second", ProxyVotes.CARRIED, x.cast(1));
        CHECK.due("the second", ProxyVotes.CARRIED, x.ofItem(1, 2));
        CHECK.due("the third is tied", ProxyVotes.TIED, x.ofItem(2, 2));
        x.recuse(0, 2, 1);
        CHECK.due("the third", ProxyVotes.CARRIED, x.cast(1));
        CHECK.due("three ties", 3, x.ofMember(0, 5));
        CHECK.sentence(
            "NOT_POSSIBLE if no item is TIED, nobody is present, or the chair of the moment is recused for it");
        ProxyVotes y = present(2);
        y.item(0, 0);
        y.recuse(0, 0, 1);
        y.open(0);
        y.close();
        y.open(1);
        y.close();
        CHECK.due("recused for the lowest one, though not for the next", NOT_POSSIBLE, y.cast(1));
        y.chair(1);
        CHECK.due("another chair", ProxyVotes.CARRIED, y.cast(1));
        y.chair(0);
        CHECK.due("not recused for the next one", ProxyVotes.CARRIED, y.cast(1));
    }

    private static void castWhatever() {
        CHECK.sentence("(whatever CASTING is then)");
        for (int casting = 0; casting <= 1; casting++) {
            ProxyVotes x = Committees.tied();
            x.set(ProxyVotes.CASTING, casting);
            CHECK.due("still tied", ProxyVotes.TIED, x.ofItem(0, 2));
            CHECK.due("for", ProxyVotes.CARRIED, x.cast(1));
            x.undo();
            CHECK.due("against", ProxyVotes.LOST, x.cast(2));
        }
        CHECK.change("for", ProxyVotes.CARRIED, Committees::tied, x -> x.cast(1));
        CHECK.change("against", ProxyVotes.LOST, Committees::tied, x -> x.cast(2));
    }

    private static void castByWhom() {
        CHECK.sentence("9 who broke the tie (NONE if nobody did)");
        ProxyVotes x = Committees.tied();
        CHECK.due("nobody did", NONE, x.ofItem(0, 9));
        x.chair(1);
        x.cast(1);
        CHECK.due("the chair", 1, x.ofItem(0, 9));
        CHECK.due("nobody broke another one", NONE, x.ofItem(1, 9));
        CHECK.sentence("5 the ties that were broken by this member");
        CHECK.due("one", 1, x.ofMember(1, 5));
        CHECK.due("none", 0, x.ofMember(0, 5));
        x.undo();
        x.go(1);
        x.cast(1);
        CHECK.due("the lowest one who is present", 0, x.ofItem(0, 9));
        CHECK.due("one", 1, x.ofMember(0, 5));
        CHECK.due("none", 0, x.ofMember(1, 5));
        x.come(1);
        x.chair(1);
        CHECK.due("it stays", 0, x.ofItem(0, 9));
    }

    private static void tellStates() {
        CHECK.sentence("A member can tell a choice for an item ahead of time, for the case of being absent.");
        ProxyVotes z = Committees.plain(2);
        z.proxy(0, NONE, 1);
        CHECK.due("while absent, ahead of time", NONE, z.tell(0, 0, 2));
        CHECK.due("one who is present later, too", NONE, z.tell(1, 0, 1));
        z.come(1);
        CHECK.due("it is told while present", 1, z.tell(1, 0, 0));
        CHECK.same("only that of the absent one counts", Check.row(0, 0, 1, 1, 0, 0), Check.sums(z, 0));
        z.come(0);
        CHECK.same("none counts when both are present", Check.row(0, 0, 0, 2, 0, 0), Check.sums(z, 0));
        z.go(0);
        CHECK.same("it counts again", Check.row(0, 0, 1, 1, 0, 0), Check.sums(z, 0));
        CHECK.sentence("Returns the choice that was told before, NONE if there was none");
        ProxyVotes x = Committees.plain(2);
        CHECK.due("none", NONE, x.tell(0, 0, 0));
        CHECK.due("0 is none of none", 0, x.tell(0, 0, 2));
        CHECK.due("2", 2, x.tell(0, 0, NONE));
        CHECK.due("none", NONE, x.tell(0, 0, NONE));
        CHECK.sentence("NOT_POSSIBLE if the item is neither WAITING nor OPEN");
        CHECK.change("WAITING", NONE, Committees::tied, y -> y.tell(0, 2, 1));
        CHECK.change("OPEN", NONE, () -> Committees.opened(1), y -> y.tell(0, 0, 1));
        CHECK.refused("TIED", NOT_POSSIBLE, Committees::tied, y -> y.tell(0, 0, 1));
        CHECK.refused("LOST", NOT_POSSIBLE, Committees::tied, y -> y.tell(0, 1, 1));
        CHECK.refused("LOST, none any more", NOT_POSSIBLE, Committees::tied, y -> y.tell(0, 1, NONE));
        CHECK.refused("CARRIED", NOT_POSSIBLE, Check.after(Committees::tied, y -> y.cast(1)), y -> y.tell(0, 0, 1));
        CHECK.change("put off", NONE, Check.after(CountingEdgesTest::putOff, ProxyVotes::close), y -> y.tell(0, 0, 1));
    }

    private static void recuseStates() {
        CHECK.sentence("NOT_POSSIBLE if the item is neither WAITING nor OPEN");
        CHECK.change("WAITING", 1, Committees::tied, x -> x.recuse(0, 2, 1));
        CHECK.change("OPEN", 1, () -> Committees.opened(1), x -> x.recuse(0, 0, 1));
        CHECK.change("OPEN, taken back", 0, () -> Committees.opened(1), x -> x.recuse(0, 0, 0));
        CHECK.refused("TIED", NOT_POSSIBLE, Committees::tied, x -> x.recuse(0, 0, 1));
        CHECK.refused("LOST", NOT_POSSIBLE, Committees::tied, x -> x.recuse(0, 1, 1));
        CHECK.refused("LOST, taken back", NOT_POSSIBLE, Committees::tied, x -> x.recuse(0, 1, 0));
        CHECK.refused("CARRIED", NOT_POSSIBLE, Check.after(Committees::tied, x -> x.cast(1)), x -> x.recuse(0, 0, 1));
    }
}
