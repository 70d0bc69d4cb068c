/** "Who speaks for whom" and "Counting", as at(), ofItem() and count() tell them (promises 9 to 11, 17 to 20). */
public final class SpeakersTest {
    private static final int NONE = -6;
    private static final Check CHECK = new Check();

    public static void main(String[] args) {
        ways();
        chainsOff();
        circles();
        recusedOnes();
        limits();
        sixWays();
        votesThatStand();
        quorum();
        CHECK.end();
    }

    private static ProxyVotes members(int number) {
        ProxyVotes x = new ProxyVotes();
        for (int member = 0; member < number; member++) {
            x.member(1, 0);
        }
        x.item(0, 0);
        x.set(ProxyVotes.LIMIT, 6);
        return x;
    }

    /** Each names the next one for all items. */
    private static void chain(ProxyVotes x, int... way) {
        for (int i = 0; i + 1 < way.length; i++) {
            x.proxy(way[i], NONE, way[i + 1]);
        }
    }

    private static void ways() {
        ProxyVotes x = members(12);
        chain(x, 0, 11, 1, 10, 2, 9, 3, 8, 4, 7, 5, 6);
        CHECK.due("a way that ends with one who is absent, without a holder", NONE, x.at(0, 0, 0));
        x.come(6);
        for (int member = 0; member < 12; member++) {
            int due = member <= 5 || member == 6 ? 6 : NONE;
            CHECK.due("a long way of " + member, due, x.at(member, 0, 0));
        }
        CHECK.due("the lowest six", 63, x.at(6, 0, 6));
        CHECK.due("an absent one speaks for nobody", 0, x.at(5, 0, 6));
        x.come(8);
        CHECK.due("the first one who is present", 8, x.at(0, 0, 0));
        CHECK.due("behind that one", 6, x.at(4, 0, 0));
        CHECK.due("of one who is present, the member", 8, x.at(8, 0, 0));
        x.item(0, 0);
        x.proxy(11, 1, 6);
        CHECK.due("for one item another way", 6, x.at(0, 1, 0));
        CHECK.due("not for the others", 8, x.at(0, 0, 0));
        CHECK.due("sets are of one item", 8 + 512 + 1024 + 4 + 2, x.at(8, 1, 6));
        x.go(6);
        CHECK.due("nobody", NONE, x.at(0, 1, 0));
    }

    private static void chainsOff() {
        ProxyVotes x = members(4);
        chain(x, 0, 1, 2);
        x.come(2);
        x.set(ProxyVotes.CHAIN, 0);
        CHECK.due("the holder is absent", NONE, x.at(0, 0, 0));
        CHECK.due("the holder is present", 2, x.at(1, 0, 0));
        x.set(ProxyVotes.CHAIN, 1);
        CHECK.due("on to the next one", 2, x.at(0, 0, 0));
    }

    private static void circles() {
        ProxyVotes x = members(5);
        chain(x, 0, 1, 2, 0);
        x.come(4);
        CHECK.due("a circle", NONE, x.at(0, 0, 0));
        chain(x, 3, 1);
        CHECK.due("into a circle", NONE, x.at(3, 0, 0));
        x.proxy(2, 0, 4);
        CHECK.due("out of the circle", 4, x.at(3, 0, 0));
        CHECK.due("all of them", 15, x.at(4, 0, 6));
        x.proxy(2, 0, NONE);
        chain(x, 0, 3, 0);
        CHECK.due("two", NONE, x.at(0, 0, 0));
        CHECK.due("two", NONE, x.at(3, 0, 0));
        x.come(0);
        CHECK.due("back to one who is present", 0, x.at(2, 0, 0));
        CHECK.due("a circle is none for others", 2 + 4 + 8, x.at(0, 0, 6) | x.at(1, 0, 6));
    }

    private static void recusedOnes() {
        ProxyVotes x = members(3);
        x.member(1, 1);
        x.item(0, 2);
        chain(x, 0, 3, 1);
        x.come(1);
        CHECK.due("through an absent one who is recused", 1, x.at(0, 1, 0));
        CHECK.due("who has nobody", NONE, x.at(3, 1, 0));
        CHECK.due("and is none of the set", 1, x.at(1, 1, 6));
        CHECK.due("for the other item", 9, x.at(1, 0, 6));
        x.come(3);
        CHECK.due("a recused one who is present has nobody", NONE, x.at(3, 1, 0));
        CHECK.due("and ends the way", NONE, x.at(0, 1, 0));
        CHECK.due("with an empty set", 0, x.at(3, 1, 6));
        CHECK.due("for the other item the one is the holder", 3, x.at(0, 0, 0));
        x.go(3);
        x.recuse(1, 1, 1);
        CHECK.due("recused by hand", NONE, x.at(0, 1, 0));
        x.recuse(1, 1, 0);
        x.recuse(0, 1, 1);
        CHECK.due("the member is recused by hand", NONE, x.at(0, 1, 0));
        x.set(ProxyVotes.LIMIT, 1);
        CHECK.due("of 0 and 3 the lowest one", 1, x.at(1, 0, 6));
        x.proxy(2, NONE, 1);
        CHECK.due("recused ones take no place", 4, x.at(1, 1, 6));
    }

    private static void limits() {
        ProxyVotes x = members(9);
        for (int member = 0; member < 7; member++) {
            x.proxy(member, NONE, 7);
        }
        x.come(7);
        int[] sets = {0, 1, 3, 7, 15, 31, 63};
        for (int limit = 0; limit <= 6; limit++) {
            x.set(ProxyVotes.LIMIT, limit);
            CHECK.due("the lowest " + limit, sets[limit], x.at(7, 0, 6));
            CHECK.due("the last one of them", limit > 3 ? 7 : NONE, x.at(3, 0, 0));
        }
        x.set(ProxyVotes.LIMIT, 2);
        x.come(0);
        CHECK.due("one who is present takes no place", 6, x.at(7, 0, 6));
        x.open(0);
        x.vote(0, 1);
        x.go(0);
        CHECK.due("one whose own vote stands takes a place", 3, x.at(7, 0, 6));
        x.tell(1, 0, 1);
        CHECK.due("one whose choice is told, too", 3, x.at(7, 0, 6));
        x.come(8);
        x.proxy(1, 0, 8);
        CHECK.due("each has places of their own", 5, x.at(7, 0, 6));
        CHECK.due("each has places of their own", 2, x.at(8, 0, 6));
        ProxyVotes y = members(4);
        y.set(ProxyVotes.LIMIT, 1);
        chain(y, 2, 0, 3);
        y.come(3);
        CHECK.due("those on the way take places, too", 1, y.at(3, 0, 6));
        CHECK.due("the others have nobody", NONE, y.at(2, 0, 0));
    }

    private static void sixWays() {
        ProxyVotes x = new ProxyVotes();
        int[] weights = {1, 2, 3, 4, 5, 6, 7, 8};
        for (int weight : weights) {
            x.member(weight, weight == 8 ? 2 : 0);
        }
        x.item(0, 4);
        x.set(ProxyVotes.LIMIT, 6);
        Check.come(x, 0, 1, 2, 7);
        x.proxy(3, NONE, 0);
        x.proxy(4, NONE, 1);
        x.proxy(5, NONE, 0);
        x.tell(5, 0, 2);
        x.tell(6, 0, 1);
        x.tell(0, 0, 2);
        CHECK.same("before it is open", Check.row(0, 0, 6, 1 + 2 + 3 + 4 + 5, 7, 8), Check.sums(x, 0));
        x.open(0);
        CHECK.due("told, but the holder has not voted", ProxyVotes.AGAINST, x.at(5, 0, 3));
        x.vote(0, 1);
        x.vote(2, 0);
        int[] due = {ProxyVotes.FOR, ProxyVotes.SILENT, ProxyVotes.ABSTAINED, ProxyVotes.FOR, ProxyVotes.SILENT,
            ProxyVotes.AGAINST, ProxyVotes.UNHEARD, ProxyVotes.RECUSED};
        for (int member = 0; member < 8; member++) {
            CHECK.due("the way of " + member, due[member], x.at(member, 0, 3));
        }
        CHECK.same("the six sums", Check.row(3, 1 + 4, 6, 2 + 5, 7, 8), Check.sums(x, 0));
        x.vote(1, 0);
        CHECK.due("by the one who speaks", ProxyVotes.ABSTAINED, x.at(4, 0, 3));
        x.tell(4, 0, 1);
        CHECK.due("the told choice goes first", ProxyVotes.FOR, x.at(4, 0, 3));
        x.tell(7, 0, 1);
        x.go(7);
        CHECK.due("recused goes before all", ProxyVotes.RECUSED, x.at(7, 0, 3));
        x.come(5);
        CHECK.due("present: the told choice does not count", ProxyVotes.SILENT, x.at(5, 0, 3));
    }

    private static void votesThatStand() {
        ProxyVotes x = members(3);
        Check.come(x, 0, 1, 2);
        x.open(0);
        x.vote(0, 1);
        x.vote(1, 2);
        x.tell(0, 0, 2);
        x.proxy(0, NONE, 1);
        x.go(0);
        CHECK.due("the own vote goes before told choice and holder", ProxyVotes.FOR, x.at(0, 0, 3));
        x.proxy(0, NONE, NONE);
        CHECK.due("also with nobody", ProxyVotes.FOR, x.at(0, 0, 3));
        x.recuse(0, 0, 1);
        CHECK.due("not while recused", ProxyVotes.RECUSED, x.at(0, 0, 3));
        CHECK.due("but it stands", 1, x.ofMember(0, 4));
        x.recuse(0, 0, 0);
        CHECK.due("and counts again", ProxyVotes.FOR, x.at(0, 0, 3));
        x.proxy(2, NONE, 0);
        x.go(2);
        CHECK.due("an absent one speaks for nobody", ProxyVotes.UNHEARD, x.at(2, 0, 3));
    }

    private static void quorum() {
        ProxyVotes x = new ProxyVotes();
        x.member(2, 0);
        x.member(3, 1);
        x.member(4, 0);
        x.member(1, 1);
        x.item(0, 2);
        x.come(0);
        CHECK.due("2 of 10", 0, x.ofItem(0, 11));
        x.proxy(2, NONE, 0);
        CHECK.due("6 of 10", 1, x.ofItem(0, 11));
        x.set(ProxyVotes.QUORUM, 60);
        CHECK.due("just 6 of 10", 1, x.ofItem(0, 11));
        x.set(ProxyVotes.QUORUM, 61);
        CHECK.due("not more", 0, x.ofItem(0, 11));
        x.proxy(1, NONE, 0);
        CHECK.due("recused and absent: not there", 0, x.ofItem(0, 11));
        x.come(1);
        CHECK.due("recused and present: there", 1, x.ofItem(0, 11));
        x.set(ProxyVotes.QUORUM, 90);
        CHECK.due("just 9 of 10", 1, x.ofItem(0, 11));
        x.set(ProxyVotes.QUORUM, 91);
        CHECK.due("not more", 0, x.ofItem(0, 11));
        x.pass(239);
        CHECK.due("before LATE", 0, x.ofItem(0, 11));
        x.pass(1);
        CHECK.due("from LATE on", 1, x.ofItem(0, 11));
    }
}
