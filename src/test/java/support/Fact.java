/** The FACTS of a case, each with numbers that are as told for a case of an ITEM. */
enum Fact {
    RESERVE, PAY, CLOSE, REOPEN, CORRECT, SHARE, SALVAGE, RECOURSE;

    int tell(Office o, int theCase, int day) {
        switch (this) {
            case RESERVE: return o.reserve(theCase, day, 0, 5);
            case PAY: return o.pay(theCase, day, 5);
            case CLOSE: return o.close(theCase, day);
            case REOPEN: return o.reopen(theCase, day, 2);
            case CORRECT: return o.correct(theCase, day, 0, 0, 500, 0);
            case SHARE: return o.share(theCase, day, 1, 0);
            case SALVAGE: return o.salvage(theCase, day, 5);
            default: return o.recourse(theCase, day, 0);
        }
    }
}
