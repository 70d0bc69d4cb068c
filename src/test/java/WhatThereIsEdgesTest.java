/** The sentences of ofMember(), ofItem(), at() and count(): each number that they tell, and where it ends. */
public final class WhatThereIsEdgesTest {
    private static final int NONE = -6;
    private static final Check CHECK = new Check();

    public static void main(String[] args) {
        ofMemberAtFirst();
        presentOrNot();
        holderForAll();
        votesThatStand();
        tiesBroken();
        ofItemAtFirst();
        quorumNow();
        sumsOfStates();
        atOfClosedItems();
        atNone();
        countStates();
        countSettings();
        countOfTexts();
        CHECK.end();
    }

    private static void ofMemberAtFirst() {
        CHECK.sentence("0 the weight, 1 the group, 2 whether present (1 or 0), 3 the holder for all items");
        ProxyVotes x = new ProxyVotes();
        x.member(9, 3);
        x.member(1, 0);
        CHECK.numbers("a heavy one", new int[] {9, 3, 0, NONE, 0, 0}, Check.ofMember(x, 0));
        CHECK.numbers("a light one", new int[] {1, 0, 0, NONE, 0, 0}, Check.ofMember(x, 1));
    }

    private static void presentOrNot() {
        CHECK.sentence("2 whether present (1 or 0)");
        ProxyVotes x = Committees.plain(12);
        for (int member = 0; member < 12; member += 11) {
            CHECK.due("absent", 0, x.ofMember(member, 2));
            x.come(member);
            CHECK.due("present", 1, x.ofMember(member, 2));
            CHECK.due("alone", 1 << member, x.count(3));
            x.go(member);
            CHECK.due("absent again", 0, x.ofMember(member, 2));
        }
    }

    private static void holderForAll() {
        CHECK.sentence("3 the holder for all items (NONE if there is none)");
        ProxyVotes x = Committees.plain(12);
        x.proxy(0, 0, 11);
        CHECK.due("one for just an item is none", NONE, x.ofMember(0, 3));
        CHECK.due("it is at the item", 11, x.at(0, 0, 4));
        x.proxy(0, NONE, 11);
        CHECK.due("the last member", 11, x.ofMember(0, 3));
        x.proxy(11, NONE, 0);
        CHECK.due("of the last member the first", 0, x.ofMember(11, 3));
        CHECK.due("which is none for just the item", NONE, x.at(11, 0, 4));
    }

    private static void votesThatStand() {
        CHECK.sentence("4 the votes that were given and stand, for all items");
        ProxyVotes x = Committees.opened(2);
        x.item(0, 0);
        CHECK.due("none", 0, x.ofMember(0, 4));
        x.vote(0, 0);
        CHECK.due("one who abstains", 1, x.ofMember(0, 4));
        x.vote(0, 2);
        CHECK.due("one in place of it", 1, x.ofMember(0, 4));
        x.recuse(0, 0, 1);
        CHECK.due("recused: it stands", 1, x.ofMember(0, 4));
        x.close();
        CHECK.due("closed: it stands", 1, x.ofMember(0, 4));
        x.open(1);
        x.vote(0, 1);
        CHECK.due("two items", 2, x.ofMember(0, 4));
        x.go(0);
        CHECK.due("absent: they stand", 2, x.ofMember(0, 4));
        x.set(ProxyVotes.QUORUM, 100);
        x.close();
        CHECK.due("put off: those of the one item are dropped", 1, x.ofMember(0, 4));
        CHECK.due("none of the other one", 0, x.ofMember(1, 4));
    }

    private static void tiesBroken() {
        CHECK.sentence("5 the ties that were broken by this member");
        ProxyVotes x = Committees.plain(1);
        x.item(0, 0);
        x.come(0);
        for (int item = 0; item < 2; item++) {
            CHECK.due("as many", item, x.ofMember(0, 5));
            x.open(item);
            x.close();
            x.cast(2 - item);
        }
        CHECK.due("two", 2, x.ofMember(0, 5));
    }

    private static void ofItemAtFirst() {
        CHECK.sentence("0 its kind, 1 its groups, 2 its state, 3 to 8 the sums of the weights in the six ways");
        ProxyVotes x = new ProxyVotes();
        x.item(2, 15);
        x.item(0, 0);
        CHECK.numbers("one of all groups", new int[] {2, 15, 0, 0, 0, 0, 0, 0, 0, NONE, 0, 1}, Check.ofItem(x, 0));
        x.member(9, 0);
        CHECK.numbers("one of all groups, with a member",
            new int[] {2, 15, 0, 0, 0, 0, 0, 0, 9, NONE, 0, 0}, Check.ofItem(x, 0));
        CHECK.numbers("one of no group", new int[] {0, 0, 0, 0, 0, 0, 0, 9, 0, NONE, 0, 0}, Check.ofItem(x, 1));
        x.come(0);
        CHECK.numbers("one of all groups, with one present",
            new int[] {2, 15, 0, 0, 0, 0, 0, 0, 9, NONE, 0, 1}, Check.ofItem(x, 0));
        CHECK.numbers("one of no group, with one present",
            new int[] {0, 0, 0, 0, 0, 0, 9, 0, 0, NONE, 0, 1}, Check.ofItem(x, 1));
    }

    private static void quorumNow() {
        CHECK.sentence("11 whether the quorum is there for it now (1 or 0)");
        ProxyVotes x = Committees.opened(2);
        CHECK.due("OPEN", 1, x.ofItem(0, 11));
        x.go(0);
        CHECK.due("OPEN, one of two", 1, x.ofItem(0, 11));
        x.go(1);
        CHECK.due("OPEN, nobody", 0, x.ofItem(0, 11));
        x.come(1);
        x.close();
        CHECK.due("TIED", 1, x.ofItem(0, 11));
        x.go(1);
        CHECK.due("TIED, nobody", 0, x.ofItem(0, 11));
        x.come(0);
        x.cast(1);
        CHECK.due("CARRIED", 1, x.ofItem(0, 11));
        x.go(0);
        CHECK.due("CARRIED, nobody", 0, x.ofItem(0, 11));
    }

    private static void sumsOfStates() {
        CHECK.sentence("(while it is WAITING or OPEN as things are; then as they were when it was closed)");
        ProxyVotes x = Committees.plain(1);
        CHECK.same("WAITING", Check.row(0, 0, 0, 0, 1, 0), Check.sums(x, 0));
        x.come(0);
        CHECK.same("WAITING, as things are", Check.row(0, 0, 0, 1, 0, 0), Check.sums(x, 0));
        x.open(0);
        CHECK.same("OPEN", Check.row(0, 0, 0, 1, 0, 0), Check.sums(x, 0));
        x.vote(0, 0);
        CHECK.same("OPEN, as things are", Check.row(1, 0, 0, 0, 0, 0), Check.sums(x, 0));
        x.recuse(0, 0, 1);
        CHECK.same("OPEN, recused", Check.row(0, 0, 0, 0, 0, 1), Check.sums(x, 0));
        x.close();
        x.member(4, 0);
        CHECK.same("TIED", Check.row(0, 0, 0, 0, 0, 1), Check.sums(x, 0));
        x.undo();
        x.undo();
        CHECK.same("OPEN again", Check.row(0, 0, 0, 0, 0, 1), Check.sums(x, 0));
        x.undo();
        CHECK.same("OPEN again, as things are", Check.row(1, 0, 0, 0, 0, 0), Check.sums(x, 0));
    }

    private static void atOfClosedItems() {
        CHECK.sentence("Returns something of a member for an item, as things are now.");
        ProxyVotes x = Committees.opened(2);
        x.tell(1, 0, 1);
        x.vote(0, 2);
        x.go(1);
        x.close();
        CHECK.numbers("LOST", new int[] {0, 2, NONE, 2, NONE, 0, 0}, Check.at(x, 0, 0));
        CHECK.numbers("LOST, absent", new int[] {NONE, NONE, 1, 4, NONE, 0, 0}, Check.at(x, 1, 0));
        x.proxy(1, 0, 0);
        CHECK.numbers("with a holder by now", new int[] {0, 2, NONE, 2, NONE, 0, 2}, Check.at(x, 0, 0));
        CHECK.numbers("absent, with a holder by now", new int[] {0, NONE, 1, 1, 0, 0, 0}, Check.at(x, 1, 0));
        CHECK.same("though the sums are as they were", Check.row(0, 0, 1, 0, 1, 0), Check.sums(x, 0));
    }

    private static void atNone() {
        CHECK.sentence("1 the vote that was given (NONE if none was), 2 the told choice (NONE)");
        ProxyVotes x = Committees.opened(2);
        CHECK.numbers("present", new int[] {1, NONE, NONE, 3, NONE, 0, 0}, Check.at(x, 1, 0));
        for (int choice = 0; choice <= 2; choice++) {
            x.vote(1, choice);
            x.tell(1, 0, 2 - choice);
            CHECK.numbers("with both", new int[] {1, choice, 2 - choice, choice, NONE, 0, 0}, Check.at(x, 1, 0));
        }
        x.tell(1, 0, NONE);
        x.recuse(1, 0, 1);
        CHECK.numbers("recused", new int[] {NONE, 2, NONE, 5, NONE, 1, 0}, Check.at(x, 1, 0));
        x.go(1);
        CHECK.numbers("recused and absent", new int[] {NONE, 2, NONE, 5, NONE, 1, 0}, Check.at(x, 1, 0));
    }

    private static int[] states(ProxyVotes x) {
        return new int[] {x.count(8), x.count(9), x.count(10), x.count(11), x.count(12)};
    }

    private static void countStates() {
        CHECK.sentence("8 to 12 the items in the states 0 to 4");
        ProxyVotes x = Committees.plain(1);
        for (int item = 1; item < 12; item++) {
            x.item(0, 0);
        }
        x.come(0);
        int[] due = {12, 0, 0, 0, 0};
        for (int item = 0; item < 12; item++) {
            x.open(item);
            due[0]--;
            due[1]++;
            CHECK.numbers("open " + item, due, states(x));
            x.vote(0, item % 3);
            x.close();
            due[1]--;
            due[2 + item % 3]++;
            CHECK.numbers("closed " + item, due, states(x));
        }
        int ties = 4;
        while (ties > 0) {
            ties--;
            x.cast(1 + ties % 2);
            CHECK.due("ties", ties, x.count(10));
        }
        CHECK.due("carried", 6, x.count(11));
        CHECK.due("lost", 6, x.count(12));
    }

    private static void countSettings() {
        CHECK.sentence("16 to 21 the settings");
        ProxyVotes x = new ProxyVotes();
        int[] highest = {100, 100, 600, 6, 1, 1};
        for (int setting = 0; setting < 6; setting++) {
            x.set(setting, 0);
            CHECK.due("the lowest", 0, x.count(16 + setting));
            x.set(setting, highest[setting]);
            CHECK.due("the highest", highest[setting], x.count(16 + setting));
        }
    }

    private static void countOfTexts() {
        CHECK.sentence("13 movements that wait, 14 the length of the pad, 15 how many changes can be undone");
        ProxyVotes x = Committees.full();
        CHECK.due("20", 20, x.count(13));
        CHECK.due("80", 80, x.count(14));
        CHECK.due("6", 6, x.count(15));
        ProxyVotes y = new ProxyVotes();
        CHECK.due("no movement", 0, y.count(13));
        CHECK.due("no text", 0, y.count(14));
        CHECK.due("no change", 0, y.count(15));
        CHECK.sentence("0 the minute, 1 members, 2 items, 3 the set of members who are present");
        CHECK.due("12 members", 12, x.count(1));
        CHECK.due("12 items", 12, x.count(2));
        CHECK.due("the weight of all members", 1 + 2 + 3 + 4 + 5 + 6 + 7 + 8 + 9 + 1 + 2 + 3, x.count(7));
        CHECK.due("the last minute", 9000, Committees.atTheEnd().count(0));
    }
}
