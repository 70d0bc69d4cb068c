/** Committees that several of the tests begin with. */
final class Committees {
    static final int NONE = -6;
    static final int MOST_MEMBERS = 12, MOST_ITEMS = 12, MOST_MOVEMENTS = 20, MOST_CHARACTERS = 80, MOST_UNDO = 6;

    private Committees() {
    }

    /** Members of weight 1 and group 0, and one item of kind 0 that touches no group. */
    static ProxyVotes plain(int members) {
        ProxyVotes x = new ProxyVotes();
        for (int member = 0; member < members; member++) {
            x.member(1, 0);
        }
        x.item(0, 0);
        return x;
    }

    /** As plain(), but all are present, and the item is OPEN. */
    static ProxyVotes opened(int members) {
        ProxyVotes x = plain(members);
        for (int member = 0; member < members; member++) {
            x.come(member);
        }
        x.open(0);
        return x;
    }

    /**
     * Something of everything: item 0 is CARRIED, 1 OPEN, 2 WAITING; members 0 and 2 are present, 1 and 3 absent;
     * 1 is recused for item 1 by its group, 3 for item 2 by hand; two movements wait, the pad holds a text, both slots
     * are filled, and six changes can be undone.
     */
    static ProxyVotes busy() {
        ProxyVotes x = new ProxyVotes();
        x.member(3, 0);
        x.member(2, 1);
        x.member(4, 0);
        x.member(1, 3);
        x.item(0, 0);
        x.item(1, 2);
        x.item(0, 0);
        x.save(0);
        x.come(0);
        x.come(2);
        x.save(1);
        Check.write(x, "+B;m3;+D");
        x.proxy(1, NONE, 0);
        x.proxy(3, 1, 2);
        x.open(0);
        x.vote(0, 1);
        x.vote(2, 2);
        x.close();
        x.tell(1, 2, 2);
        x.recuse(3, 2, 1);
        x.later(5, 1, 1);
        x.later(6, 0, 0);
        x.open(1);
        x.vote(0, 1);
        return x;
    }

    /** Nothing is OPEN: item 0 is TIED, 1 LOST, 2 WAITING; all three members are present. */
    static ProxyVotes tied() {
        ProxyVotes x = plain(3);
        x.item(0, 0);
        x.item(0, 0);
        x.come(0);
        x.come(1);
        x.come(2);
        x.open(0);
        x.close();
        x.open(1);
        x.vote(0, 2);
        x.close();
        return x;
    }

    /** Nobody is present, and everything that has a bound is full: members, items, movements, pad and history. */
    static ProxyVotes full() {
        ProxyVotes x = new ProxyVotes();
        for (int number = 0; number < MOST_MEMBERS; number++) {
            x.member(number % 9 + 1, number % 4);
            x.item(number % 3, number % 2 == 0 ? 0 : number);
        }
        for (int minute = 1; minute <= MOST_MOVEMENTS; minute++) {
            x.later(minute, minute % MOST_MEMBERS, minute % 2);
        }
        for (int length = 0; length < MOST_CHARACTERS; length += 8) {
            x.put(Check.packed("c;+A;m1;"));
        }
        return x;
    }

    /** As many minutes have passed as may. */
    static ProxyVotes atTheEnd() {
        ProxyVotes x = Committees.plain(2);
        for (int hours = 0; hours < 15; hours++) {
            x.pass(600);
        }
        return x;
    }
}
