/** A call of the program with one argument. */
interface Call {
    int answer(RingProver x, int argument);
}
