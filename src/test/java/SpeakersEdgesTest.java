/** The sentences of "Members", "Items" and "Who speaks for whom", each with its boundary. */
public final class SpeakersEdgesTest {
    private static final int NO_SUCH = -1, NOT_POSSIBLE = -5, NONE = -6;
    private static final Check CHECK = new Check();

    public static void main(String[] args) {
        absentAtFirst();
        comeAndGo();
        namedChairs();
        chairOfTheMoment();
        oneIsOpen();
        recusedByGroups();
        recusedByHand();
        holderOfOneItem();
        namedHolders();
        noHolder();
        withoutChain();
        membersMet();
        longestWay();
        endsWithRecused();
        throughRecused();
        limit();
        lowestNumbers();
        recusedTakeNoPlace();
        ownVotesTakePlaces();
        whoSpeaks();
        CHECK.end();
    }

    /** Members of weight 1 with places for six; one item; each of the way names the next one for all items. */
    private static ProxyVotes way(int members, int... way) {
        ProxyVotes x = Committees.plain(members);
        x.set(ProxyVotes.LIMIT, 6);
        for (int i = 0; i + 1 < way.length; i++) {
            x.proxy(way[i], NONE, way[i + 1]);
        }
        return x;
    }

    private static void speakers(String what, ProxyVotes x, int... due) {
        for (int member = 0; member < due.length; member++) {
            CHECK.due(what + ": for " + member, due[member], x.at(member, 0, 0));
        }
    }

    private static void absentAtFirst() {
        CHECK.sentence("is present or absent (absent at first)");
        ProxyVotes x = new ProxyVotes();
        x.member(1, 0);
        CHECK.due("absent", 0, x.ofMember(0, 2));
        CHECK.due("can't go", NOT_POSSIBLE, x.go(0));
        CHECK.due("can come", 1, x.come(0));
        x.member(1, 0);
        CHECK.due("also a later one", 1, x.count(3));
    }

    private static void comeAndGo() {
        CHECK.sentence("NOT_POSSIBLE if the member is present");
        for (int members = 1; members <= 12; members += 11) {
            ProxyVotes x = Committees.plain(members);
            int last = members - 1;
            CHECK.due("the last one comes", 1, x.come(last));
            CHECK.due("once", NOT_POSSIBLE, x.come(last));
            CHECK.due("and goes", 0, x.go(last));
            CHECK.sentence("NOT_POSSIBLE if the member is absent");
            CHECK.due("once", NOT_POSSIBLE, x.go(last));
            CHECK.due("and comes again", 1, x.come(last));
            CHECK.due("nobody behind the last one", NO_SUCH, x.come(members));
            CHECK.due("nobody behind the last one", NO_SUCH, x.go(members));
            CHECK.sentence("NOT_POSSIBLE if the member is present");
        }
        CHECK.sentence("Returns how many are present then");
        ProxyVotes y = Committees.plain(12);
        for (int member = 0; member < 12; member++) {
            CHECK.due("one more", member + 1, y.come(member));
        }
        for (int member = 0; member < 12; member++) {
            CHECK.due("one less", 11 - member, y.go(member));
        }
    }

    private static void namedChairs() {
        CHECK.sentence("Returns the chair before");
        ProxyVotes x = Committees.plain(12);
        CHECK.due("the first one", 0, x.chair(11));
        CHECK.due("the last one", 11, x.chair(11));
        CHECK.due("the last one again", 11, x.chair(0));
        CHECK.sentence("NO_SUCH if there is no such member");
        CHECK.due("nobody", NO_SUCH, x.chair(12));
        CHECK.due("nobody", NO_SUCH, x.chair(-1));
        CHECK.due("the first one still", 0, x.count(5));
    }

    private static void chairOfTheMoment() {
        CHECK.sentence("One member is the chair (the first one, at first).");
        ProxyVotes x = new ProxyVotes();
        x.member(1, 0);
        CHECK.due("the first", 0, x.count(5));
        x.member(9, 0);
        x.member(1, 0);
        CHECK.due("the first, still", 0, x.count(5));
        CHECK.sentence("The chair of the moment is the chair if present, otherwise the present member with the lowest");
        int[] moment = {NONE, 0, 1, 0, 2, 2, 2, 2};
        x.chair(2);
        for (int present = 0; present < 8; present++) {
            for (int member = 0; member < 3; member++) {
                if ((present >> member & 1) == 1) {
                    x.come(member);
                } else {
                    x.go(member);
                }
            }
            CHECK.due("present " + present, moment[present], x.count(6));
            CHECK.due("the chair is the same", 2, x.count(5));
        }
    }

    private static void oneIsOpen() {
        CHECK.sentence("At most one item is OPEN.");
        ProxyVotes x = Committees.opened(2);
        x.item(0, 0);
        CHECK.refused("another one", NOT_POSSIBLE, () -> {
            ProxyVotes y = Committees.opened(2);
            y.item(0, 0);
            return y;
        }, y -> y.open(1));
        CHECK.due("one", 1, x.count(9));
        x.close();
        CHECK.due("none", 0, x.count(9));
        CHECK.due("the other one then", 2, x.open(1));
        CHECK.due("one", 1, x.count(9));
    }

    private static void recusedByGroups() {
        for (int group = 0; group < 4; group++) {
            for (int groups = 0; groups < 16; groups++) {
                ProxyVotes x = new ProxyVotes();
                x.member(1, group);
                x.item(0, groups);
                int due = groups / (1 << group) % 2;
                CHECK.sentence("A member is recused for an item if the item touches the group of the member");
                CHECK.due("group " + group + " of " + groups, due, x.at(0, 0, 5));
                CHECK.sentence("Returns 1 if the member is recused for the item then (also by a group), otherwise 0");
                CHECK.due("and by hand " + group + " of " + groups, 1, x.recuse(0, 0, 1));
                CHECK.due("and taken back " + group + " of " + groups, due, x.recuse(0, 0, 0));
            }
        }
    }

    private static void recusedByHand() {
        CHECK.sentence("or this was told by hand");
        ProxyVotes x = Committees.plain(12);
        x.item(0, 0);
        for (int member = 0; member < 12; member += 11) {
            CHECK.due("told", 1, x.recuse(member, 0, 1));
            CHECK.due("told again", 1, x.recuse(member, 0, 1));
            for (int other = 0; other < 12; other++) {
                CHECK.due("only this one", other == member ? 1 : 0, x.at(other, 0, 5));
                CHECK.due("only for this item", 0, x.at(other, 1, 5));
            }
            CHECK.due("taken back", 0, x.recuse(member, 0, 0));
            CHECK.due("taken back again", 0, x.recuse(member, 0, 0));
        }
    }

    private static void holderOfOneItem() {
        CHECK.sentence("for an item, the holder is the one for this item, if there is one, otherwise the one for all");
        ProxyVotes x = way(4, 0, 1);
        x.item(0, 0);
        x.come(1);
        x.come(2);
        speakers("for all", x, 1);
        x.proxy(0, 0, 2);
        speakers("for this item", x, 2);
        CHECK.due("not for the other one", 1, x.at(0, 1, 0));
        x.proxy(0, 0, 3);
        speakers("the one for this item is absent, and the one for all is not asked", x, NONE);
        x.proxy(0, 0, NONE);
        speakers("for all again", x, 1);
        x.proxy(0, NONE, NONE);
        speakers("none any more", x, NONE);
        x.proxy(0, 0, 1);
        speakers("only for this item", x, 1);
        CHECK.due("none for the other one", NONE, x.at(0, 1, 0));
        x.proxy(3, NONE, 0);
        speakers("on the way, too", x, 1, 1, 2, 1);
        CHECK.due("on the way none for the other item", NONE, x.at(3, 1, 0));
    }

    private static void namedHolders() {
        CHECK.sentence("Returns the holder that was named before, for just this, NONE if there was none");
        ProxyVotes x = Committees.plain(3);
        CHECK.due("none for all", NONE, x.proxy(0, NONE, 1));
        CHECK.due("none for just the item", NONE, x.proxy(0, 0, 2));
        CHECK.due("one for all", 1, x.proxy(0, NONE, NONE));
        CHECK.due("one for just the item", 2, x.proxy(0, 0, NONE));
        CHECK.due("none any more", NONE, x.proxy(0, 0, NONE));
        CHECK.due("none any more", NONE, x.proxy(0, NONE, NONE));
        CHECK.due("the member", NO_SUCH, x.proxy(0, 0, 0));
        CHECK.due("one who is absent, who names, and who is named", NONE, x.proxy(2, NONE, 0));
        x.come(2);
        CHECK.due("also by one who is present", 0, x.proxy(2, NONE, 1));
        CHECK.due("who speaks for herself", 2, x.at(2, 0, 0));
    }

    private static void noHolder() {
        CHECK.sentence("It ends with nobody if there is no holder");
        ProxyVotes x = way(3, 0, 1);
        x.come(2);
        speakers("no holder at first, none on the way", x, NONE, NONE, 2);
        x.proxy(1, NONE, 2);
        speakers("a holder on the way", x, 2, 2, 2);
    }

    private static void withoutChain() {
        CHECK.sentence(
            "as long as it has come to a member who is absent, it goes on to the holder of that one, if CHAIN is 1");
        ProxyVotes x = way(4, 0, 1, 2, 3);
        x.come(3);
        speakers("CHAIN is 1", x, 3, 3, 3, 3);
        CHECK.sentence("or CHAIN is 0 and it has come to one who is absent");
        x.set(ProxyVotes.CHAIN, 0);
        speakers("CHAIN is 0", x, NONE, NONE, 3, 3);
        CHECK.due("for whom 3 speaks", 4, x.at(3, 0, 6));
        x.come(1);
        speakers("the first one is present", x, 1, 1, 3, 3);
        x.set(ProxyVotes.CHAIN, 1);
        speakers("CHAIN is 1, and the way ends with the first who is present", x, 1, 1, 3, 3);
    }

    private static void membersMet() {
        CHECK.sentence("or it comes to a member whom it has met (the one with whom it began, too)");
        ProxyVotes x = way(4, 0, 1, 0);
        x.come(3);
        speakers("two who name each other", x, NONE, NONE, NONE, 3);
        x.proxy(2, NONE, 1);
        speakers("one who comes into the circle", x, NONE, NONE, NONE, 3);
        x.proxy(0, 0, 3);
        speakers("a way out for this item", x, 3, 3, 3, 3);
        x.proxy(0, 0, NONE);
        x.come(0);
        speakers("one of the circle is present", x, 0, 0, 0, 3);
        ProxyVotes y = way(12, 0, 1, 2, 3, 4, 5, 6, 7, 8, 9, 10, 11, 0);
        speakers("all in one circle", y, NONE, NONE, NONE, NONE, NONE, NONE, NONE, NONE, NONE, NONE, NONE, NONE);
        y.come(0);
        // LIMIT lets the lowest six of the eleven find a place.
        speakers("one of all is present", y, 0, 0, 0, 0, 0, 0, 0, NONE, NONE, NONE, NONE, NONE);
    }

    private static void longestWay() {
        CHECK.sentence("it goes on to the holder of that one");
        ProxyVotes x = way(12, 0, 1, 2, 3, 4, 5, 6, 7, 8, 9, 10, 11);
        speakers("nobody is present", x, NONE, NONE, NONE, NONE, NONE, NONE, NONE, NONE, NONE, NONE, NONE, NONE);
        x.come(11);
        CHECK.due("eleven steps", 11, x.at(0, 0, 0));
        CHECK.due("the lowest six of eleven", 63, x.at(11, 0, 6));
        ProxyVotes y = way(12, 11, 10, 9, 8, 7, 6, 5, 4, 3, 2, 1, 0);
        y.come(0);
        CHECK.due("eleven steps down", NONE, y.at(11, 0, 0));
        CHECK.due("the lowest six of eleven", 126, y.at(0, 0, 6));
        for (int member = 2; member <= 6; member++) {
            y.recuse(member, 0, 1);
        }
        CHECK.due("eleven steps down, as five are recused", 0, y.at(11, 0, 0));
        CHECK.due("the lowest six of the others", 2 + 128 + 256 + 512 + 1024 + 2048, y.at(0, 0, 6));
    }

    private static void endsWithRecused() {
        CHECK.sentence("If it ends with a member who is present, but is recused for the item, it ends with nobody");
        ProxyVotes x = way(4, 0, 1, 2);
        x.come(1);
        x.come(2);
        x.recuse(1, 0, 1);
        speakers("it does not go on to the holder of the recused one", x, NONE, NONE, 2);
        CHECK.due("who speaks for nobody", 0, x.at(1, 0, 6));
        x.recuse(1, 0, 0);
        speakers("taken back", x, 1, 1, 2);
        ProxyVotes y = way(2);
        y.member(1, 2);
        y.item(0, 4);
        y.proxy(0, NONE, 2);
        y.come(2);
        CHECK.due("recused by the group", NONE, y.at(0, 1, 0));
        CHECK.due("not for the other item", 2, y.at(0, 0, 0));
        y.proxy(0, 1, 1);
        y.come(1);
        CHECK.due("another one for this item", 1, y.at(0, 1, 0));
    }

    private static void throughRecused() {
        CHECK.sentence("it goes on through absent ones, recused or not");
        ProxyVotes x = way(4, 0, 1, 2);
        x.come(2);
        x.recuse(1, 0, 1);
        speakers("through one recused by hand", x, 2, NONE, 2);
        CHECK.due("the set", 1, x.at(2, 0, 6));
        ProxyVotes y = way(2);
        y.member(1, 1);
        y.item(0, 2);
        y.proxy(0, NONE, 2);
        y.proxy(2, NONE, 1);
        y.come(1);
        CHECK.due("through one recused by the group", 1, y.at(0, 1, 0));
        CHECK.due("who has nobody", NONE, y.at(2, 1, 0));
    }

    private static void limit() {
        CHECK.sentence("Each member speaks for LIMIT absent members at most");
        int[] sets = {0, 1, 3, 7, 15, 31, 63};
        for (int absent = 0; absent <= 8; absent++) {
            ProxyVotes x = Committees.plain(10);
            x.come(9);
            for (int member = 0; member < absent; member++) {
                x.proxy(member, NONE, 9);
            }
            for (int limit = 0; limit <= 6; limit++) {
                x.set(ProxyVotes.LIMIT, limit);
                int due = sets[Math.min(limit, absent)];
                CHECK.due(limit + " of " + absent, due, x.at(9, 0, 6));
                for (int member = 0; member < absent; member++) {
                    CHECK.due(limit + ", member " + member, member < limit ? 9 : NONE, x.at(member, 0, 0));
                }
                CHECK.due("and for herself", 9, x.at(9, 0, 0));
            }
        }
        CHECK.sentence("LIMIT (0 to 6; 2)");
        ProxyVotes y = Committees.plain(4);
        y.come(3);
        y.proxy(0, NONE, 3);
        y.proxy(1, NONE, 3);
        y.proxy(2, NONE, 3);
        CHECK.due("two at first", 3, y.at(3, 0, 6));
    }

    private static void lowestNumbers() {
        CHECK.sentence("of those whose ways end with this member, those with the lowest numbers");
        ProxyVotes x = Committees.plain(7);
        x.come(2);
        x.come(6);
        x.proxy(5, NONE, 2);
        x.proxy(4, NONE, 2);
        CHECK.due("two higher ones", 16 + 32, x.at(2, 0, 6));
        x.proxy(3, NONE, 2);
        CHECK.due("a lower one, who came last", 8 + 16, x.at(2, 0, 6));
        x.proxy(1, NONE, 5);
        CHECK.due("a lower one, whose way is longer", 2 + 8, x.at(2, 0, 6));
        CHECK.sentence("the others have nobody");
        speakers("the others", x, NONE, 2, 2, 2, NONE, NONE, 6);
        CHECK.due("an other one is unheard", ProxyVotes.UNHEARD, x.at(4, 0, 3));
        x.proxy(4, NONE, 6);
        speakers("each has places of their own", x, NONE, 2, 2, 2, 6, NONE, 6);
        x.come(1);
        speakers("one who is present takes no place", x, NONE, 1, 2, 2, 6, 2, 6);
        ProxyVotes y = Committees.plain(4);
        y.item(0, 0);
        y.set(ProxyVotes.LIMIT, 1);
        y.come(3);
        y.proxy(0, 0, 3);
        y.proxy(1, NONE, 3);
        CHECK.due("a place for this item", 1, y.at(3, 0, 6));
        CHECK.due("is none for another item", 2, y.at(3, 1, 6));
    }

    private static void recusedTakeNoPlace() {
        CHECK.sentence("recused ones are none of them");
        ProxyVotes x = Committees.plain(4);
        x.set(ProxyVotes.LIMIT, 1);
        x.come(3);
        x.proxy(0, NONE, 3);
        x.proxy(1, NONE, 3);
        CHECK.due("the lowest", 1, x.at(3, 0, 6));
        x.recuse(0, 0, 1);
        CHECK.due("the next one", 2, x.at(3, 0, 6));
        CHECK.due("the recused one has nobody", NONE, x.at(0, 0, 0));
        x.recuse(1, 0, 1);
        CHECK.due("none is left", 0, x.at(3, 0, 6));
        x.recuse(0, 0, 0);
        CHECK.due("the lowest again", 1, x.at(3, 0, 6));
    }

    private static void ownVotesTakePlaces() {
        CHECK.sentence("recused ones are none of them, those whose own votes stand are");
        ProxyVotes x = Committees.opened(4);
        x.set(ProxyVotes.LIMIT, 1);
        x.vote(0, 1);
        x.proxy(0, NONE, 3);
        x.proxy(1, NONE, 3);
        x.go(0);
        x.go(1);
        CHECK.due("the one whose vote stands", 1, x.at(3, 0, 6));
        CHECK.due("the other one has nobody", ProxyVotes.UNHEARD, x.at(1, 0, 3));
        CHECK.due("though the vote counts by itself", ProxyVotes.FOR, x.at(0, 0, 3));
        x.recuse(0, 0, 1);
        CHECK.due("recused with a vote that stands", 2, x.at(3, 0, 6));
        CHECK.due("the other one waits for a vote", ProxyVotes.SILENT, x.at(1, 0, 3));
    }

    private static void whoSpeaks() {
        CHECK.sentence("0 who speaks for the member (NONE if the member is recused; otherwise the member if present");
        ProxyVotes x = way(3, 0, 1);
        x.come(1);
        speakers("absent with somebody, present, absent with nobody", x, 1, 1, NONE);
        x.recuse(0, 0, 1);
        x.recuse(1, 0, 1);
        speakers("recused and absent, recused and present", x, NONE, NONE, NONE);
        CHECK.sentence("6 the set of absent members for whom this one speaks");
        ProxyVotes y = way(3, 0, 1);
        y.come(1);
        CHECK.due("not the member", 1, y.at(1, 0, 6));
        CHECK.due("of one who is absent", 0, y.at(0, 0, 6));
        CHECK.due("of one who is absent and has nobody", 0, y.at(2, 0, 6));
        y.come(0);
        CHECK.due("nobody is absent behind this one", 0, y.at(1, 0, 6));
    }
}
